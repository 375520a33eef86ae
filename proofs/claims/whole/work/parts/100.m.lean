def hM (c_thrown : Int32) (c_told : (Nat → Int32)) (c_read : (Nat → Int32)) (c_many : (Nat → Int32)) (c_eights : (Nat → Int32)) (c_gains : (Nat → Int32)) (c_notes : (Nat → Int32)) (c_seen : (Nat → Int32)) (c_turns : (Nat → Int32)) (c_drawn : (Nat → Int32)) (c_state : Int32) (c_tape : (Nat → Int32)) (c_taped : Int32) (c_size : Int32) (c_from : Int32) (c_next : Int32) (c_token : Int32) (c_value : Int32) (c_fault : Int32) (c_number : Int32) (c_fives : (Nat → Int32)) (c_isLeft : (Nat → Int32)) (c_wentTimes : Int32) (c_goes : (Nat → Int32)) (c_isLeftLaid : Int32) (c_game : (Nat → Int32)) (c_rows : Int32) (c_columns : Int32) (c_isFound : Int32) (c_bestValue : Int64) (c_bestBelow : Int64) (c_bestShare : (Nat → Int64)) (c_share : (Nat → Int64)) (c_matrix : (Nat → Int64)) (c_system : (Nat → Int64)) (c_shares : (Nat → Int32)) (c_allShares : Int32) : xHp := [.inr (10, [.int c_thrown, .ref 1, .ref 2, .ref 3, .ref 4, .ref 5, .ref 6, .ref 7, .ref 8, .ref 9, .int c_state, .ref 10, .int c_taped, .int c_size, .int c_from, .int c_next, .int c_token, .int c_value, .int c_fault, .int c_number, .ref 11, .ref 12, .int c_wentTimes, .ref 13, .int c_isLeftLaid, .ref 14, .int c_rows, .int c_columns, .int c_isFound, .long c_bestValue, .long c_bestBelow, .ref 15, .ref 16, .ref 17, .ref 18, .ref 19, .int c_allShares]), .inl (0, 56, .inl c_told), .inl (0, 56, .inl c_read), .inl (0, 2, .inl c_many), .inl (0, 256, .inl c_eights), .inl (0, 16384, .inl c_gains), .inl (0, 2, .inl c_notes), .inl (0, 256, .inl c_seen), .inl (0, 2, .inl c_turns), .inl (0, 16, .inl c_drawn), .inl (2, 300, .inl c_tape), .inl (0, 8, .inl c_fives), .inl (3, 256, .inl c_isLeft), .inl (3, 256, .inl c_goes), .inl (0, 64, .inl c_game), .inl (1, 8, .inr (.inl c_bestShare)), .inl (1, 8, .inr (.inl c_share)), .inl (1, 64, .inr (.inl c_matrix)), .inl (1, 64, .inr (.inl c_system)), .inl (0, 128, .inl c_shares)]
def hA (c_of : (Nat → Int32)) : xHp := [.inl (0, 56, .inl c_of)]
abbrev hW (c_thrown : Int32) (c_told : (Nat → Int32)) (c_read : (Nat → Int32)) (c_many : (Nat → Int32)) (c_eights : (Nat → Int32)) (c_gains : (Nat → Int32)) (c_notes : (Nat → Int32)) (c_seen : (Nat → Int32)) (c_turns : (Nat → Int32)) (c_drawn : (Nat → Int32)) (c_state : Int32) (c_tape : (Nat → Int32)) (c_taped : Int32) (c_size : Int32) (c_from : Int32) (c_next : Int32) (c_token : Int32) (c_value : Int32) (c_fault : Int32) (c_number : Int32) (c_fives : (Nat → Int32)) (c_isLeft : (Nat → Int32)) (c_wentTimes : Int32) (c_goes : (Nat → Int32)) (c_isLeftLaid : Int32) (c_game : (Nat → Int32)) (c_rows : Int32) (c_columns : Int32) (c_isFound : Int32) (c_bestValue : Int64) (c_bestBelow : Int64) (c_bestShare : (Nat → Int64)) (c_share : (Nat → Int64)) (c_matrix : (Nat → Int64)) (c_system : (Nat → Int64)) (c_shares : (Nat → Int32)) (c_allShares : Int32) (c_zrow : Nat → Int32) : xHp := hM c_thrown c_told c_read c_many c_eights c_gains c_notes c_seen c_turns c_drawn c_state c_tape c_taped c_size c_from c_next c_token c_value c_fault c_number c_fives c_isLeft c_wentTimes c_goes c_isLeftLaid c_game c_rows c_columns c_isFound c_bestValue c_bestBelow c_bestShare c_share c_matrix c_system c_shares c_allShares ++ [.inl (0, 6, .inl c_zrow)]
theorem f10_1 : xFl RX10 1 10 0 := ⟨_, rfl, by decide, List.mem_of_getElem? (i := 183) (by decide +kernel)⟩
theorem dX10_thrown_0 : decode cX10_thrown 0 = .ok (.aload_n 0, 1) := by decide +kernel
theorem dX10_thrown_1 : decode cX10_thrown 1 = .ok (.getfield 1, 3) := by decide +kernel
theorem dX10_thrown_4 : decode cX10_thrown 4 = .ok (.ireturn, 1) := by decide +kernel
abbrev j10_thrown : xJ := (cX10_thrown, 1, RX10, 1, 0, 0)
def F10_thrown (c_thrown : Int32) : Option (Int32) :=
  some (c_thrown)
theorem T10_thrown {X : xX} {c_thrown : Int32} {c_told : (Nat → Int32)} {c_read : (Nat → Int32)} {c_many : (Nat → Int32)} {c_eights : (Nat → Int32)} {c_gains : (Nat → Int32)} {c_notes : (Nat → Int32)} {c_seen : (Nat → Int32)} {c_turns : (Nat → Int32)} {c_drawn : (Nat → Int32)} {c_state : Int32} {c_tape : (Nat → Int32)} {c_taped : Int32} {c_size : Int32} {c_from : Int32} {c_next : Int32} {c_token : Int32} {c_value : Int32} {c_fault : Int32} {c_number : Int32} {c_fives : (Nat → Int32)} {c_isLeft : (Nat → Int32)} {c_wentTimes : Int32} {c_goes : (Nat → Int32)} {c_isLeftLaid : Int32} {c_game : (Nat → Int32)} {c_rows : Int32} {c_columns : Int32} {c_isFound : Int32} {c_bestValue : Int64} {c_bestBelow : Int64} {c_bestShare : (Nat → Int64)} {c_share : (Nat → Int64)} {c_matrix : (Nat → Int64)} {c_system : (Nat → Int64)} {c_shares : (Nat → Int32)} {c_allShares : Int32} {v : Int32} (hX : xIs (j10_thrown) X ((some .int)) (some (.int v)) (hM c_thrown c_told c_read c_many c_eights c_gains c_notes c_seen c_turns c_drawn c_state c_tape c_taped c_size c_from c_next c_token c_value c_fault c_number c_fives c_isLeft c_wentTimes c_goes c_isLeftLaid c_game c_rows c_columns c_isFound c_bestValue c_bestBelow c_bestShare c_share c_matrix c_system c_shares c_allShares)) (hf : F10_thrown c_thrown = some v) : xV (j10_thrown) X 0 0 (hM c_thrown c_told c_read c_many c_eights c_gains c_notes c_seen c_turns c_drawn c_state c_tape c_taped c_size c_from c_next c_token c_value c_fault c_number c_fives c_isLeft c_wentTimes c_goes c_isLeftLaid c_game c_rows c_columns c_isFound c_bestValue c_bestBelow c_bestShare c_share c_matrix c_system c_shares c_allShares) 0 [(0, .ref 0)] [] := by
  unfold F10_thrown at hf
  refine xV_aload_n 1 rfl dX10_thrown_0 rfl 0 rfl ?_
  refine xV_get (v := .int c_thrown) 4 rfl dX10_thrown_1 f10_1 rfl rfl ?_
  obtain rfl := Option.some.inj hf
  exact xV_iret hX dX10_thrown_4 rfl (Nat.zero_le _) (Nat.zero_le _)
theorem C10_thrown (l : Launch) {c_thrown : Int32} {c_told : (Nat → Int32)} {c_read : (Nat → Int32)} {c_many : (Nat → Int32)} {c_eights : (Nat → Int32)} {c_gains : (Nat → Int32)} {c_notes : (Nat → Int32)} {c_seen : (Nat → Int32)} {c_turns : (Nat → Int32)} {c_drawn : (Nat → Int32)} {c_state : Int32} {c_tape : (Nat → Int32)} {c_taped : Int32} {c_size : Int32} {c_from : Int32} {c_next : Int32} {c_token : Int32} {c_value : Int32} {c_fault : Int32} {c_number : Int32} {c_fives : (Nat → Int32)} {c_isLeft : (Nat → Int32)} {c_wentTimes : Int32} {c_goes : (Nat → Int32)} {c_isLeftLaid : Int32} {c_game : (Nat → Int32)} {c_rows : Int32} {c_columns : Int32} {c_isFound : Int32} {c_bestValue : Int64} {c_bestBelow : Int64} {c_bestShare : (Nat → Int64)} {c_share : (Nat → Int64)} {c_matrix : (Nat → Int64)} {c_system : (Nat → Int64)} {c_shares : (Nat → Int32)} {c_allShares : Int32} {v : Int32} (hf : F10_thrown c_thrown = some v) : xCt l yX10_thrown ((some .int)) j10_thrown [.ref 0] (hM c_thrown c_told c_read c_many c_eights c_gains c_notes c_seen c_turns c_drawn c_state c_tape c_taped c_size c_from c_next c_token c_value c_fault c_number c_fives c_isLeft c_wentTimes c_goes c_isLeftLaid c_game c_rows c_columns c_isFound c_bestValue c_bestBelow c_bestShare c_share c_matrix c_system c_shares c_allShares) (some (.int v)) (hM c_thrown c_told c_read c_many c_eights c_gains c_notes c_seen c_turns c_drawn c_state c_tape c_taped c_size c_from c_next c_token c_value c_fault c_number c_fives c_isLeft c_wentTimes c_goes c_isLeftLaid c_game c_rows c_columns c_isFound c_bestValue c_bestBelow c_bestShare c_share c_matrix c_system c_shares c_allShares) := xCt_of (by decide) rfl (Nat.le_of_ble_eq_true rfl) (fun _ hX => T10_thrown hX hf)
theorem m10_thrown : xMd yX10_thrown RX10 ((some .int)) j10_thrown 0 := ⟨List.mem_of_getElem? (i := 590) (by decide +kernel), List.mem_of_getElem? (i := 5) (by decide +kernel), rfl, by decide +kernel⟩
theorem v10_thrown : xMv yX10_thrown RX10 := ⟨List.mem_of_getElem? (i := 588) (by decide +kernel), List.mem_of_getElem? (i := 589) (by decide +kernel)⟩
theorem xk_i1 : Int32.ofInt (1) = (1 : Int32) := by decide
theorem xk_i0 : Int32.ofInt (0) = (0 : Int32) := by decide
theorem dX10_within_0 : decode cX10_within 0 = .ok (.iload_n 0, 1) := by decide +kernel
theorem dX10_within_1 : decode cX10_within 1 = .ok (.iload_n 1, 1) := by decide +kernel
theorem dX10_within_2 : decode cX10_within 2 = .ok (.if_icmp .lt 12, 3) := by decide +kernel
theorem dX10_within_5 : decode cX10_within 5 = .ok (.iload_n 0, 1) := by decide +kernel
theorem dX10_within_6 : decode cX10_within 6 = .ok (.iload_n 2, 1) := by decide +kernel
theorem dX10_within_7 : decode cX10_within 7 = .ok (.if_icmp .gt 7, 3) := by decide +kernel
theorem dX10_within_10 : decode cX10_within 10 = .ok (.iconst 1, 1) := by decide +kernel
theorem dX10_within_11 : decode cX10_within 11 = .ok (.goto 4, 3) := by decide +kernel
theorem dX10_within_14 : decode cX10_within 14 = .ok (.iconst 0, 1) := by decide +kernel
theorem dX10_within_15 : decode cX10_within 15 = .ok (.ireturn, 1) := by decide +kernel
abbrev j10_within : xJ := (cX10_within, 3, RX10, 1, 0, 0)
def F10_within (x0 : Int32) (x1 : Int32) (x2 : Int32) : Option (Int32) :=
  if x0 < x1 then (some ((0 : Int32))) else (if x2 < x0 then (some ((0 : Int32))) else (some ((1 : Int32))))
theorem T10_within {X : xX} {x0 : Int32} {x1 : Int32} {x2 : Int32}  {v : Int32} (hX : xIs (j10_within) X ((some .boolean)) (some (.int v)) ([] : xHp)) (hf : F10_within x0 x1 x2 = some v) : xV (j10_within) X 0 0 ([] : xHp) 0 [(0, .int x0), (1, .int x1), (2, .int x2)] [] := by
  unfold F10_within at hf
  refine xV_iload_n 1 rfl dX10_within_0 rfl 0 rfl ?_
  refine xV_iload_n 2 rfl dX10_within_1 rfl 1 rfl ?_
  refine xV_icmp_lt (tgt := 14) 5 rfl dX10_within_2 (by decide) (fun h2 => ?_) (fun h2 => ?_)
  · have hf := xif_t hf h2
    refine xV_iconst 15 rfl dX10_within_14 xk_i0 ?_
    obtain rfl := Option.some.inj hf
    exact xV_iret hX dX10_within_15 (xbo_ok rfl) (Nat.zero_le _) (Nat.zero_le _)
  · have hf := xif_f hf h2
    refine xV_iload_n 6 rfl dX10_within_5 rfl 0 rfl ?_
    refine xV_iload_n 7 rfl dX10_within_6 rfl 2 rfl ?_
    refine xV_icmp_gt (tgt := 14) 10 rfl dX10_within_7 (by decide) (fun h7 => ?_) (fun h7 => ?_)
    · have hf := xif_t hf h7
      refine xV_iconst 15 rfl dX10_within_14 xk_i0 ?_
      obtain rfl := Option.some.inj hf
      exact xV_iret hX dX10_within_15 (xbo_ok rfl) (Nat.zero_le _) (Nat.zero_le _)
    · have hf := xif_f hf h7
      refine xV_iconst 11 rfl dX10_within_10 xk_i1 ?_
      refine xV_goto (tgt := 15) dX10_within_11 (by decide) ?_
      obtain rfl := Option.some.inj hf
      exact xV_iret hX dX10_within_15 (xbo_ok rfl) (Nat.zero_le _) (Nat.zero_le _)
theorem C10_within (l : Launch) {x0 : Int32} {x1 : Int32} {x2 : Int32}  {v : Int32} (hf : F10_within x0 x1 x2 = some v) : xCt l yX10_within ((some .boolean)) j10_within [.int x0, .int x1, .int x2] ([] : xHp) (some (.int v)) ([] : xHp) := xCt_of (by decide) rfl (Nat.le_of_ble_eq_true rfl) (fun _ hX => T10_within hX hf)
theorem m10_within : xMd yX10_within RX10 ((some .boolean)) j10_within 3 := ⟨List.mem_of_getElem? (i := 415) (by decide +kernel), List.mem_of_getElem? (i := 5) (by decide +kernel), rfl, by decide +kernel⟩
theorem s10_within : Cond.static yX10_within ∈ wsL_law0 := List.mem_of_getElem? (i := 414) (by decide +kernel)
theorem k10_7 : Cond.methodLink RX10 7 yX10_within ∈ wsL_law0 := List.mem_of_getElem? (i := 413) (by decide +kernel)
theorem dX10_isSide_0 : decode cX10_isSide 0 = .ok (.iload_n 0, 1) := by decide +kernel
theorem dX10_isSide_1 : decode cX10_isSide 1 = .ok (.iconst 0, 1) := by decide +kernel
theorem dX10_isSide_2 : decode cX10_isSide 2 = .ok (.iconst 1, 1) := by decide +kernel
theorem dX10_isSide_3 : decode cX10_isSide 3 = .ok (.invokestatic 7, 3) := by decide +kernel
theorem dX10_isSide_6 : decode cX10_isSide 6 = .ok (.ireturn, 1) := by decide +kernel
abbrev j10_isSide : xJ := (cX10_isSide, 1, RX10, 2, 0, 0)
def F10_isSide (x0 : Int32) : Option (Int32) :=
  (F10_within x0 (0 : Int32) (1 : Int32)).bind (fun v3 => xg (xbo v3) (some (v3)))
theorem T10_isSide {X : xX} {x0 : Int32}  {v : Int32} (hX : xIs (j10_isSide) X ((some .boolean)) (some (.int v)) ([] : xHp)) (hf : F10_isSide x0 = some v) : xV (j10_isSide) X 0 0 ([] : xHp) 0 [(0, .int x0)] [] := by
  unfold F10_isSide at hf
  refine xV_iload_n 1 rfl dX10_isSide_0 rfl 0 rfl ?_
  refine xV_iconst 2 rfl dX10_isSide_1 xk_i0 ?_
  refine xV_iconst 3 rfl dX10_isSide_2 xk_i1 ?_
  obtain ⟨v3, hv3, hf⟩ := xb_s hf
  refine xV_st0 (rest := []) 6 rfl dX10_isSide_3 rfl (C10_within X.1.2.1 hv3) m10_within s10_within k10_7 rfl (Nat.le_of_ble_eq_true rfl) (Nat.le_of_ble_eq_true rfl) (Nat.le_of_ble_eq_true rfl) ⟨Nat.le_refl _, Nat.le_refl _⟩ ?_
  show xV (j10_isSide) X 0 0 ([] : xHp) 6 [(0, .int x0)] [.int v3]
  obtain ⟨hgr, hf⟩ := xg_s hf
  obtain rfl := Option.some.inj hf
  exact xV_iret hX dX10_isSide_6 (xbo_ok hgr) (Nat.zero_le _) (Nat.zero_le _)
theorem C10_isSide (l : Launch) {x0 : Int32}  {v : Int32} (hf : F10_isSide x0 = some v) : xCt l yX10_isSide ((some .boolean)) j10_isSide [.int x0] ([] : xHp) (some (.int v)) ([] : xHp) := xCt_of (by decide) rfl (Nat.le_of_ble_eq_true rfl) (fun _ hX => T10_isSide hX hf)
theorem m10_isSide : xMd yX10_isSide RX10 ((some .boolean)) j10_isSide 1 := ⟨List.mem_of_getElem? (i := 544) (by decide +kernel), List.mem_of_getElem? (i := 5) (by decide +kernel), rfl, by decide +kernel⟩
theorem s10_isSide : Cond.static yX10_isSide ∈ wsL_law0 := List.mem_of_getElem? (i := 543) (by decide +kernel)
theorem xk_in0_56 : vp_in (0 : Int32) 56 := xin_ok (by decide)
theorem xk_j0 : (0 : Int32).toNatClampNeg = 0 := by decide
theorem xk_s128 : (Int16.ofInt (128)).toInt32 = (128 : Int32) := by decide
theorem xk_b8 : (Int8.ofInt (8)).toInt32 = (8 : Int32) := by decide
theorem f10_17 : xFl RX10 17 10 1 := ⟨_, rfl, by decide, List.mem_of_getElem? (i := 122) (by decide +kernel)⟩
theorem f10_27 : xFl RX10 27 10 4 := ⟨_, rfl, by decide, List.mem_of_getElem? (i := 125) (by decide +kernel)⟩
theorem f10_24 : xFl RX10 24 10 3 := ⟨_, rfl, by decide, List.mem_of_getElem? (i := 124) (by decide +kernel)⟩
theorem k10_82 : Cond.methodLink RX10 82 yX10_fills ∈ wsL_law0 := List.mem_of_getElem? (i := 149) (by decide +kernel)
theorem dX10_fills_0 : decode cX10_fills 0 = .ok (.iload_n 2, 1) := by decide +kernel
theorem dX10_fills_1 : decode cX10_fills 1 = .ok (.aload_n 0, 1) := by decide +kernel
theorem dX10_fills_2 : decode cX10_fills 2 = .ok (.getfield 17, 3) := by decide +kernel
theorem dX10_fills_5 : decode cX10_fills 5 = .ok (.iconst 0, 1) := by decide +kernel
theorem dX10_fills_6 : decode cX10_fills 6 = .ok (.iaload, 1) := by decide +kernel
theorem dX10_fills_7 : decode cX10_fills 7 = .ok (.iconst 1, 1) := by decide +kernel
theorem dX10_fills_8 : decode cX10_fills 8 = .ok (.isub, 1) := by decide +kernel
theorem dX10_fills_9 : decode cX10_fills 9 = .ok (.if_icmp .ne 38, 3) := by decide +kernel
theorem dX10_fills_12 : decode cX10_fills 12 = .ok (.aload_n 0, 1) := by decide +kernel
theorem dX10_fills_13 : decode cX10_fills 13 = .ok (.getfield 27, 3) := by decide +kernel
theorem dX10_fills_16 : decode cX10_fills 16 = .ok (.sipush 128, 3) := by decide +kernel
theorem dX10_fills_19 : decode cX10_fills 19 = .ok (.iload_n 1, 1) := by decide +kernel
theorem dX10_fills_20 : decode cX10_fills 20 = .ok (.imul, 1) := by decide +kernel
theorem dX10_fills_21 : decode cX10_fills 21 = .ok (.aload_n 0, 1) := by decide +kernel
theorem dX10_fills_22 : decode cX10_fills 22 = .ok (.getfield 24, 3) := by decide +kernel
theorem dX10_fills_25 : decode cX10_fills 25 = .ok (.iload_n 1, 1) := by decide +kernel
theorem dX10_fills_26 : decode cX10_fills 26 = .ok (.iaload, 1) := by decide +kernel
theorem dX10_fills_27 : decode cX10_fills 27 = .ok (.iadd, 1) := by decide +kernel
theorem dX10_fills_28 : decode cX10_fills 28 = .ok (.bipush 8, 2) := by decide +kernel
theorem dX10_fills_30 : decode cX10_fills 30 = .ok (.iload 4, 2) := by decide +kernel
theorem dX10_fills_32 : decode cX10_fills 32 = .ok (.imul, 1) := by decide +kernel
theorem dX10_fills_33 : decode cX10_fills 33 = .ok (.iload_n 3, 1) := by decide +kernel
theorem dX10_fills_34 : decode cX10_fills 34 = .ok (.iadd, 1) := by decide +kernel
theorem dX10_fills_35 : decode cX10_fills 35 = .ok (.iastore, 1) := by decide +kernel
theorem dX10_fills_36 : decode cX10_fills 36 = .ok (.aload_n 0, 1) := by decide +kernel
theorem dX10_fills_37 : decode cX10_fills 37 = .ok (.getfield 24, 3) := by decide +kernel
theorem dX10_fills_40 : decode cX10_fills 40 = .ok (.iload_n 1, 1) := by decide +kernel
theorem dX10_fills_41 : decode cX10_fills 41 = .ok (.dup2, 1) := by decide +kernel
theorem dX10_fills_42 : decode cX10_fills 42 = .ok (.iaload, 1) := by decide +kernel
theorem dX10_fills_43 : decode cX10_fills 43 = .ok (.iconst 1, 1) := by decide +kernel
theorem dX10_fills_44 : decode cX10_fills 44 = .ok (.iadd, 1) := by decide +kernel
theorem dX10_fills_45 : decode cX10_fills 45 = .ok (.iastore, 1) := by decide +kernel
theorem dX10_fills_46 : decode cX10_fills 46 = .ok (.return_, 1) := by decide +kernel
theorem dX10_fills_47 : decode cX10_fills 47 = .ok (.iconst 0, 1) := by decide +kernel
theorem dX10_fills_48 : decode cX10_fills 48 = .ok (.istore 5, 2) := by decide +kernel
theorem dX10_fills_50 : decode cX10_fills 50 = .ok (.iload 5, 2) := by decide +kernel
theorem dX10_fills_52 : decode cX10_fills 52 = .ok (.iload_n 3, 1) := by decide +kernel
theorem dX10_fills_53 : decode cX10_fills 53 = .ok (.if_icmp .gt 29, 3) := by decide +kernel
theorem dX10_fills_56 : decode cX10_fills 56 = .ok (.aload_n 0, 1) := by decide +kernel
theorem dX10_fills_57 : decode cX10_fills 57 = .ok (.iload_n 1, 1) := by decide +kernel
theorem dX10_fills_58 : decode cX10_fills 58 = .ok (.iload_n 2, 1) := by decide +kernel
theorem dX10_fills_59 : decode cX10_fills 59 = .ok (.iconst 1, 1) := by decide +kernel
theorem dX10_fills_60 : decode cX10_fills 60 = .ok (.iadd, 1) := by decide +kernel
theorem dX10_fills_61 : decode cX10_fills 61 = .ok (.iload_n 3, 1) := by decide +kernel
theorem dX10_fills_62 : decode cX10_fills 62 = .ok (.iload 5, 2) := by decide +kernel
theorem dX10_fills_64 : decode cX10_fills 64 = .ok (.isub, 1) := by decide +kernel
theorem dX10_fills_65 : decode cX10_fills 65 = .ok (.bipush 8, 2) := by decide +kernel
theorem dX10_fills_67 : decode cX10_fills 67 = .ok (.iload 4, 2) := by decide +kernel
theorem dX10_fills_69 : decode cX10_fills 69 = .ok (.imul, 1) := by decide +kernel
theorem dX10_fills_70 : decode cX10_fills 70 = .ok (.iload 5, 2) := by decide +kernel
theorem dX10_fills_72 : decode cX10_fills 72 = .ok (.iadd, 1) := by decide +kernel
theorem dX10_fills_73 : decode cX10_fills 73 = .ok (.invokevirtual 82, 3) := by decide +kernel
theorem dX10_fills_76 : decode cX10_fills 76 = .ok (.iinc 5 1, 3) := by decide +kernel
theorem dX10_fills_79 : decode cX10_fills 79 = .ok (.goto (-29), 3) := by decide +kernel
theorem dX10_fills_82 : decode cX10_fills 82 = .ok (.return_, 1) := by decide +kernel
abbrev j10_fills (w : Nat) : xJ := (cX10_fills, 6, RX10, w, 0, 0)
theorem v10_fills : xMv yX10_fills RX10 := ⟨List.mem_of_getElem? (i := 150) (by decide +kernel), List.mem_of_getElem? (i := 151) (by decide +kernel)⟩
theorem m10_fills {w : Nat} : xMd yX10_fills RX10 none (j10_fills w) 4 := ⟨(show Cond.code yX10_fills cX10_fills 6 none ∈ wsL_law0 from List.mem_of_getElem? (i := 152) (by decide +kernel)), List.mem_of_getElem? (i := 5) (by decide +kernel), rfl, by decide +kernel⟩
def F10_fills_b50 (z : Nat) (w : Nat) (x1 : Int32) (x2 : Int32) (x3 : Int32) (x4 : Int32) (x5 : Int32) (c_told : (Nat → Int32)) (c_many : (Nat → Int32)) (c_eights : (Nat → Int32)) (rr : Int32 → Int32 → Int32 → Int32 → (Nat → Int32) → (Nat → Int32) → (Nat → Int32) → Option ((Nat → Int32) × (Nat → Int32))) : Option ((Nat → Int32) × (Nat → Int32)) := match w with
  | 0 => none
  | w + 1 => if x3 < x5 then (some (c_many, c_eights)) else ((rr x1 (x2 + (1 : Int32)) (x3 - x5) (((8 : Int32) * x4) + x5) c_told c_many c_eights).bind (fun v73 => F10_fills_b50 z w x1 x2 x3 x4 (x5 + (1 : Int32)) c_told v73.1 v73.2 rr))
theorem T10_fills_b50 {X : xX} {c_thrown : Int32} {c_told : (Nat → Int32)} {c_read : (Nat → Int32)} {c_gains : (Nat → Int32)} {c_notes : (Nat → Int32)} {c_seen : (Nat → Int32)} {c_turns : (Nat → Int32)} {c_drawn : (Nat → Int32)} {c_state : Int32} {c_tape : (Nat → Int32)} {c_taped : Int32} {c_size : Int32} {c_from : Int32} {c_next : Int32} {c_token : Int32} {c_value : Int32} {c_fault : Int32} {c_number : Int32} {c_fives : (Nat → Int32)} {c_isLeft : (Nat → Int32)} {c_wentTimes : Int32} {c_goes : (Nat → Int32)} {c_isLeftLaid : Int32} {c_game : (Nat → Int32)} {c_rows : Int32} {c_columns : Int32} {c_isFound : Int32} {c_bestValue : Int64} {c_bestBelow : Int64} {c_bestShare : (Nat → Int64)} {c_share : (Nat → Int64)} {c_matrix : (Nat → Int64)} {c_system : (Nat → Int64)} {c_shares : (Nat → Int32)} {c_allShares : Int32} {z : Nat} {v : (Nat → Int32) × (Nat → Int32)} {rw0 : Nat} {rr : Int32 → Int32 → Int32 → Int32 → (Nat → Int32) → (Nat → Int32) → (Nat → Int32) → Option ((Nat → Int32) × (Nat → Int32))} (hX : xIs (j10_fills (rw0 + 1)) X none none (hM c_thrown c_told c_read v.1 v.2 c_gains c_notes c_seen c_turns c_drawn c_state c_tape c_taped c_size c_from c_next c_token c_value c_fault c_number c_fives c_isLeft c_wentTimes c_goes c_isLeftLaid c_game c_rows c_columns c_isFound c_bestValue c_bestBelow c_bestShare c_share c_matrix c_system c_shares c_allShares)) (hrr : ∀ {x1 : Int32} {x2 : Int32} {x3 : Int32} {x4 : Int32} {c_told : (Nat → Int32)} {c_many : (Nat → Int32)} {c_eights : (Nat → Int32)} {c_thrown : Int32} {c_read : (Nat → Int32)} {c_gains : (Nat → Int32)} {c_notes : (Nat → Int32)} {c_seen : (Nat → Int32)} {c_turns : (Nat → Int32)} {c_drawn : (Nat → Int32)} {c_state : Int32} {c_tape : (Nat → Int32)} {c_taped : Int32} {c_size : Int32} {c_from : Int32} {c_next : Int32} {c_token : Int32} {c_value : Int32} {c_fault : Int32} {c_number : Int32} {c_fives : (Nat → Int32)} {c_isLeft : (Nat → Int32)} {c_wentTimes : Int32} {c_goes : (Nat → Int32)} {c_isLeftLaid : Int32} {c_game : (Nat → Int32)} {c_rows : Int32} {c_columns : Int32} {c_isFound : Int32} {c_bestValue : Int64} {c_bestBelow : Int64} {c_bestShare : (Nat → Int64)} {c_share : (Nat → Int64)} {c_matrix : (Nat → Int64)} {c_system : (Nat → Int64)} {c_shares : (Nat → Int32)} {c_allShares : Int32} {v : (Nat → Int32) × (Nat → Int32)}, rr x1 x2 x3 x4 c_told c_many c_eights = some v → xCt X.1.2.1 yX10_fills none (j10_fills rw0) [.ref 0, .int x1, .int x2, .int x3, .int x4] (hM c_thrown c_told c_read c_many c_eights c_gains c_notes c_seen c_turns c_drawn c_state c_tape c_taped c_size c_from c_next c_token c_value c_fault c_number c_fives c_isLeft c_wentTimes c_goes c_isLeftLaid c_game c_rows c_columns c_isFound c_bestValue c_bestBelow c_bestShare c_share c_matrix c_system c_shares c_allShares) none (hM c_thrown c_told c_read v.1 v.2 c_gains c_notes c_seen c_turns c_drawn c_state c_tape c_taped c_size c_from c_next c_token c_value c_fault c_number c_fives c_isLeft c_wentTimes c_goes c_isLeftLaid c_game c_rows c_columns c_isFound c_bestValue c_bestBelow c_bestShare c_share c_matrix c_system c_shares c_allShares)) : ∀ (w : Nat) {x1 : Int32} {x2 : Int32} {x3 : Int32} {x4 : Int32} {x5 : Int32} {c_many : (Nat → Int32)} {c_eights : (Nat → Int32)}, F10_fills_b50 z w x1 x2 x3 x4 x5 c_told c_many c_eights rr = some v → xV (j10_fills (rw0 + 1)) X 0 0 (hM c_thrown c_told c_read c_many c_eights c_gains c_notes c_seen c_turns c_drawn c_state c_tape c_taped c_size c_from c_next c_token c_value c_fault c_number c_fives c_isLeft c_wentTimes c_goes c_isLeftLaid c_game c_rows c_columns c_isFound c_bestValue c_bestBelow c_bestShare c_share c_matrix c_system c_shares c_allShares) 50 [(0, .ref 0), (1, .int x1), (2, .int x2), (3, .int x3), (4, .int x4), (5, .int x5)] [] := by
  intro w
  induction w with
  | zero => intro x1 x2 x3 x4 x5 c_many c_eights hf; cases hf
  | succ w ih =>
    intro x1 x2 x3 x4 x5 c_many c_eights hf
    unfold F10_fills_b50 at hf
    refine xV_iload 52 rfl dX10_fills_50 5 rfl ?_
    refine xV_iload_n 53 rfl dX10_fills_52 rfl 3 rfl ?_
    refine xV_icmp_gt (tgt := 82) 56 rfl dX10_fills_53 (by decide) (fun h53 => ?_) (fun h53 => ?_)
    · have hf := xif_t hf h53
      obtain rfl := Option.some.inj hf
      exact xV_vret hX dX10_fills_82 (Nat.zero_le _) (Nat.zero_le _)
    · have hf := xif_f hf h53
      refine xV_aload_n 57 rfl dX10_fills_56 rfl 0 rfl ?_
      refine xV_iload_n 58 rfl dX10_fills_57 rfl 1 rfl ?_
      refine xV_iload_n 59 rfl dX10_fills_58 rfl 2 rfl ?_
      refine xV_iconst 60 rfl dX10_fills_59 xk_i1 ?_
      refine xV_iadd 61 rfl dX10_fills_60 ?_
      refine xV_iload_n 62 rfl dX10_fills_61 rfl 3 rfl ?_
      refine xV_iload 64 rfl dX10_fills_62 5 rfl ?_
      refine xV_isub 65 rfl dX10_fills_64 ?_
      refine xV_bipush 67 rfl dX10_fills_65 xk_b8 ?_
      refine xV_iload 69 rfl dX10_fills_67 4 rfl ?_
      refine xV_imul 70 rfl dX10_fills_69 ?_
      refine xV_iload 72 rfl dX10_fills_70 5 rfl ?_
      refine xV_iadd 73 rfl dX10_fills_72 ?_
      obtain ⟨v73, hv73, hf⟩ := xb_s hf
      refine xV_same (rest := []) 76 rfl dX10_fills_73 rfl (hrr hv73) m10_fills v10_fills k10_82 rfl rfl rfl rfl rfl (Nat.le_of_ble_eq_true rfl) (Nat.le_refl _) (Nat.le_of_ble_eq_true rfl) ⟨Nat.le_refl _, Nat.le_refl _⟩ ?_
      show xV (j10_fills (rw0 + 1)) X 0 0 (hM c_thrown c_told c_read v73.1 v73.2 c_gains c_notes c_seen c_turns c_drawn c_state c_tape c_taped c_size c_from c_next c_token c_value c_fault c_number c_fives c_isLeft c_wentTimes c_goes c_isLeftLaid c_game c_rows c_columns c_isFound c_bestValue c_bestBelow c_bestShare c_share c_matrix c_system c_shares c_allShares) 76 [(0, .ref 0), (1, .int x1), (2, .int x2), (3, .int x3), (4, .int x4), (5, .int x5)] []
      refine xV_iinc (L' := [(5, .int (x5 + (1 : Int32))), (0, .ref 0), (1, .int x1), (2, .int x2), (3, .int x3), (4, .int x4)]) 79 rfl dX10_fills_76 5 rfl (xk_inc xk_i1) (xlt rfl) rfl ?_
      refine xV_goto (tgt := 50) dX10_fills_79 (by decide) ?_
      refine xV_sub [1, 2, 3, 4, 5, 0] rfl ?_
      exact ih hf
def F10_fills_e (z : Nat) (x1 : Int32) (x2 : Int32) (x3 : Int32) (x4 : Int32) (c_told : (Nat → Int32)) (c_many : (Nat → Int32)) (c_eights : (Nat → Int32)) (rr : Int32 → Int32 → Int32 → Int32 → (Nat → Int32) → (Nat → Int32) → (Nat → Int32) → Option ((Nat → Int32) × (Nat → Int32))) : Option ((Nat → Int32) × (Nat → Int32)) :=
  if x2 = ((c_told 0) - (1 : Int32)) then (xg (xin x1 2) (xg (xin (((128 : Int32) * x1) + (c_many (xn x1))) 256) (xg (xin x1 2) (xg (xin x1 2) (some ((upd c_many (xn x1) ((c_many (xn x1)) + (1 : Int32))), (upd c_eights (xn (((128 : Int32) * x1) + (c_many (xn x1)))) (((8 : Int32) * x4) + x3)))))))) else (F10_fills_b50 z z x1 x2 x3 x4 (0 : Int32) c_told c_many c_eights rr)
theorem T10_fills_e {X : xX} {z : Nat} {x1 : Int32} {x2 : Int32} {x3 : Int32} {x4 : Int32} {c_told : (Nat → Int32)} {c_many : (Nat → Int32)} {c_eights : (Nat → Int32)} {c_thrown : Int32} {c_read : (Nat → Int32)} {c_gains : (Nat → Int32)} {c_notes : (Nat → Int32)} {c_seen : (Nat → Int32)} {c_turns : (Nat → Int32)} {c_drawn : (Nat → Int32)} {c_state : Int32} {c_tape : (Nat → Int32)} {c_taped : Int32} {c_size : Int32} {c_from : Int32} {c_next : Int32} {c_token : Int32} {c_value : Int32} {c_fault : Int32} {c_number : Int32} {c_fives : (Nat → Int32)} {c_isLeft : (Nat → Int32)} {c_wentTimes : Int32} {c_goes : (Nat → Int32)} {c_isLeftLaid : Int32} {c_game : (Nat → Int32)} {c_rows : Int32} {c_columns : Int32} {c_isFound : Int32} {c_bestValue : Int64} {c_bestBelow : Int64} {c_bestShare : (Nat → Int64)} {c_share : (Nat → Int64)} {c_matrix : (Nat → Int64)} {c_system : (Nat → Int64)} {c_shares : (Nat → Int32)} {c_allShares : Int32} {v : (Nat → Int32) × (Nat → Int32)} {rw0 : Nat} {rr : Int32 → Int32 → Int32 → Int32 → (Nat → Int32) → (Nat → Int32) → (Nat → Int32) → Option ((Nat → Int32) × (Nat → Int32))} (hX : xIs (j10_fills (rw0 + 1)) X none none (hM c_thrown c_told c_read v.1 v.2 c_gains c_notes c_seen c_turns c_drawn c_state c_tape c_taped c_size c_from c_next c_token c_value c_fault c_number c_fives c_isLeft c_wentTimes c_goes c_isLeftLaid c_game c_rows c_columns c_isFound c_bestValue c_bestBelow c_bestShare c_share c_matrix c_system c_shares c_allShares)) (hrr : ∀ {x1 : Int32} {x2 : Int32} {x3 : Int32} {x4 : Int32} {c_told : (Nat → Int32)} {c_many : (Nat → Int32)} {c_eights : (Nat → Int32)} {c_thrown : Int32} {c_read : (Nat → Int32)} {c_gains : (Nat → Int32)} {c_notes : (Nat → Int32)} {c_seen : (Nat → Int32)} {c_turns : (Nat → Int32)} {c_drawn : (Nat → Int32)} {c_state : Int32} {c_tape : (Nat → Int32)} {c_taped : Int32} {c_size : Int32} {c_from : Int32} {c_next : Int32} {c_token : Int32} {c_value : Int32} {c_fault : Int32} {c_number : Int32} {c_fives : (Nat → Int32)} {c_isLeft : (Nat → Int32)} {c_wentTimes : Int32} {c_goes : (Nat → Int32)} {c_isLeftLaid : Int32} {c_game : (Nat → Int32)} {c_rows : Int32} {c_columns : Int32} {c_isFound : Int32} {c_bestValue : Int64} {c_bestBelow : Int64} {c_bestShare : (Nat → Int64)} {c_share : (Nat → Int64)} {c_matrix : (Nat → Int64)} {c_system : (Nat → Int64)} {c_shares : (Nat → Int32)} {c_allShares : Int32} {v : (Nat → Int32) × (Nat → Int32)}, rr x1 x2 x3 x4 c_told c_many c_eights = some v → xCt X.1.2.1 yX10_fills none (j10_fills rw0) [.ref 0, .int x1, .int x2, .int x3, .int x4] (hM c_thrown c_told c_read c_many c_eights c_gains c_notes c_seen c_turns c_drawn c_state c_tape c_taped c_size c_from c_next c_token c_value c_fault c_number c_fives c_isLeft c_wentTimes c_goes c_isLeftLaid c_game c_rows c_columns c_isFound c_bestValue c_bestBelow c_bestShare c_share c_matrix c_system c_shares c_allShares) none (hM c_thrown c_told c_read v.1 v.2 c_gains c_notes c_seen c_turns c_drawn c_state c_tape c_taped c_size c_from c_next c_token c_value c_fault c_number c_fives c_isLeft c_wentTimes c_goes c_isLeftLaid c_game c_rows c_columns c_isFound c_bestValue c_bestBelow c_bestShare c_share c_matrix c_system c_shares c_allShares)) (hf : F10_fills_e z x1 x2 x3 x4 c_told c_many c_eights rr = some v) : xV (j10_fills (rw0 + 1)) X 0 0 (hM c_thrown c_told c_read c_many c_eights c_gains c_notes c_seen c_turns c_drawn c_state c_tape c_taped c_size c_from c_next c_token c_value c_fault c_number c_fives c_isLeft c_wentTimes c_goes c_isLeftLaid c_game c_rows c_columns c_isFound c_bestValue c_bestBelow c_bestShare c_share c_matrix c_system c_shares c_allShares) 0 [(0, .ref 0), (1, .int x1), (2, .int x2), (3, .int x3), (4, .int x4)] [] := by
  unfold F10_fills_e at hf
  refine xV_iload_n 1 rfl dX10_fills_0 rfl 2 rfl ?_
  refine xV_aload_n 2 rfl dX10_fills_1 rfl 0 rfl ?_
  refine xV_get (v := .ref 1) 5 rfl dX10_fills_2 f10_17 rfl rfl ?_
  refine xV_iconst 6 rfl dX10_fills_5 xk_i0 ?_
  refine xV_iaload 7 rfl dX10_fills_6 rfl xk_in0_56 xk_j0 ?_
  refine xV_iconst 8 rfl dX10_fills_7 xk_i1 ?_
  refine xV_isub 9 rfl dX10_fills_8 ?_
  refine xV_icmp_ne (tgt := 47) 12 rfl dX10_fills_9 (by decide) (fun h9 => ?_) (fun h9 => ?_)
  · have hf := xif_f hf h9
    refine xV_iconst 48 rfl dX10_fills_47 xk_i0 ?_
    refine xV_istore (L' := [(5, .int (0 : Int32)), (0, .ref 0), (1, .int x1), (2, .int x2), (3, .int x3), (4, .int x4)]) 50 rfl dX10_fills_48 (xlt rfl) rfl ?_
    refine xV_sub [1, 2, 3, 4, 5, 0] rfl ?_
    exact T10_fills_b50 hX hrr _ hf
  · have hf := xif_t hf h9
    refine xV_aload_n 13 rfl dX10_fills_12 rfl 0 rfl ?_
    refine xV_get (v := .ref 4) 16 rfl dX10_fills_13 f10_27 rfl rfl ?_
    refine xV_sipush 19 rfl dX10_fills_16 xk_s128 ?_
    refine xV_iload_n 20 rfl dX10_fills_19 rfl 1 rfl ?_
    refine xV_imul 21 rfl dX10_fills_20 ?_
    refine xV_aload_n 22 rfl dX10_fills_21 rfl 0 rfl ?_
    refine xV_get (v := .ref 3) 25 rfl dX10_fills_22 f10_24 rfl rfl ?_
    refine xV_iload_n 26 rfl dX10_fills_25 rfl 1 rfl ?_
    obtain ⟨hg26, hf⟩ := xg_s hf
    refine xV_iaload 27 rfl dX10_fills_26 rfl (xin_ok hg26) rfl ?_
    refine xV_iadd 28 rfl dX10_fills_27 ?_
    refine xV_bipush 30 rfl dX10_fills_28 xk_b8 ?_
    refine xV_iload 32 rfl dX10_fills_30 4 rfl ?_
    refine xV_imul 33 rfl dX10_fills_32 ?_
    refine xV_iload_n 34 rfl dX10_fills_33 rfl 3 rfl ?_
    refine xV_iadd 35 rfl dX10_fills_34 ?_
    obtain ⟨hg35, hf⟩ := xg_s hf
    refine xV_iastore (h' := (hM c_thrown c_told c_read c_many (upd c_eights (xn (((128 : Int32) * x1) + (c_many (xn x1)))) (((8 : Int32) * x4) + x3)) c_gains c_notes c_seen c_turns c_drawn c_state c_tape c_taped c_size c_from c_next c_token c_value c_fault c_number c_fives c_isLeft c_wentTimes c_goes c_isLeftLaid c_game c_rows c_columns c_isFound c_bestValue c_bestBelow c_bestShare c_share c_matrix c_system c_shares c_allShares)) 36 rfl dX10_fills_35 rfl (xin_ok hg35) rfl rfl ?_
    refine xV_aload_n 37 rfl dX10_fills_36 rfl 0 rfl ?_
    refine xV_get (v := .ref 3) 40 rfl dX10_fills_37 f10_24 rfl rfl ?_
    refine xV_iload_n 41 rfl dX10_fills_40 rfl 1 rfl ?_
    refine xV_dup2 42 rfl dX10_fills_41 rfl rfl ?_
    obtain ⟨hg42, hf⟩ := xg_s hf
    refine xV_iaload 43 rfl dX10_fills_42 rfl (xin_ok hg42) rfl ?_
    refine xV_iconst 44 rfl dX10_fills_43 xk_i1 ?_
    refine xV_iadd 45 rfl dX10_fills_44 ?_
    obtain ⟨hg45, hf⟩ := xg_s hf
    refine xV_iastore (h' := (hM c_thrown c_told c_read (upd c_many (xn x1) ((c_many (xn x1)) + (1 : Int32))) (upd c_eights (xn (((128 : Int32) * x1) + (c_many (xn x1)))) (((8 : Int32) * x4) + x3)) c_gains c_notes c_seen c_turns c_drawn c_state c_tape c_taped c_size c_from c_next c_token c_value c_fault c_number c_fives c_isLeft c_wentTimes c_goes c_isLeftLaid c_game c_rows c_columns c_isFound c_bestValue c_bestBelow c_bestShare c_share c_matrix c_system c_shares c_allShares)) 46 rfl dX10_fills_45 rfl (xin_ok hg45) rfl rfl ?_
    obtain rfl := Option.some.inj hf
    exact xV_vret hX dX10_fills_46 (Nat.zero_le _) (Nat.zero_le _)
def F10_fills (z : Nat) (w : Nat) (x1 : Int32) (x2 : Int32) (x3 : Int32) (x4 : Int32) (c_told : (Nat → Int32)) (c_many : (Nat → Int32)) (c_eights : (Nat → Int32)) : Option ((Nat → Int32) × (Nat → Int32)) := match w with
  | 0 => none
  | w + 1 => F10_fills_e z x1 x2 x3 x4 c_told c_many c_eights (fun q0 q1 q2 q3 q4 q5 q6 => F10_fills z w q0 q1 q2 q3 q4 q5 q6)
theorem C10_fills_all {z : Nat} : ∀ (w : Nat) (l : Launch) {x1 : Int32} {x2 : Int32} {x3 : Int32} {x4 : Int32} {c_told : (Nat → Int32)} {c_many : (Nat → Int32)} {c_eights : (Nat → Int32)} {c_thrown : Int32} {c_read : (Nat → Int32)} {c_gains : (Nat → Int32)} {c_notes : (Nat → Int32)} {c_seen : (Nat → Int32)} {c_turns : (Nat → Int32)} {c_drawn : (Nat → Int32)} {c_state : Int32} {c_tape : (Nat → Int32)} {c_taped : Int32} {c_size : Int32} {c_from : Int32} {c_next : Int32} {c_token : Int32} {c_value : Int32} {c_fault : Int32} {c_number : Int32} {c_fives : (Nat → Int32)} {c_isLeft : (Nat → Int32)} {c_wentTimes : Int32} {c_goes : (Nat → Int32)} {c_isLeftLaid : Int32} {c_game : (Nat → Int32)} {c_rows : Int32} {c_columns : Int32} {c_isFound : Int32} {c_bestValue : Int64} {c_bestBelow : Int64} {c_bestShare : (Nat → Int64)} {c_share : (Nat → Int64)} {c_matrix : (Nat → Int64)} {c_system : (Nat → Int64)} {c_shares : (Nat → Int32)} {c_allShares : Int32} {v : (Nat → Int32) × (Nat → Int32)}, F10_fills z w x1 x2 x3 x4 c_told c_many c_eights = some v → xCt l yX10_fills none (j10_fills w) [.ref 0, .int x1, .int x2, .int x3, .int x4] (hM c_thrown c_told c_read c_many c_eights c_gains c_notes c_seen c_turns c_drawn c_state c_tape c_taped c_size c_from c_next c_token c_value c_fault c_number c_fives c_isLeft c_wentTimes c_goes c_isLeftLaid c_game c_rows c_columns c_isFound c_bestValue c_bestBelow c_bestShare c_share c_matrix c_system c_shares c_allShares) none (hM c_thrown c_told c_read v.1 v.2 c_gains c_notes c_seen c_turns c_drawn c_state c_tape c_taped c_size c_from c_next c_token c_value c_fault c_number c_fives c_isLeft c_wentTimes c_goes c_isLeftLaid c_game c_rows c_columns c_isFound c_bestValue c_bestBelow c_bestShare c_share c_matrix c_system c_shares c_allShares) := by
  intro w
  induction w with
  | zero => intro l _ _ _ _ _ _ _ _ _ _ _ _ _ _ _ _ _ _ _ _ _ _ _ _ _ _ _ _ _ _ _ _ _ _ _ _ _ _ _ _ _ v hf; cases hf
  | succ w ih =>
    intro l _ _ _ _ _ _ _ _ _ _ _ _ _ _ _ _ _ _ _ _ _ _ _ _ _ _ _ _ _ _ _ _ _ _ _ _ _ _ _ _ _ v hf
    unfold F10_fills at hf
    exact xCt_of (by decide) rfl (Nat.le_of_ble_eq_true rfl) (fun X hX => T10_fills_e hX (fun hq => ih _ hq) hf)
theorem C10_fills (l : Launch) {z : Nat} {w : Nat} {x1 : Int32} {x2 : Int32} {x3 : Int32} {x4 : Int32} {c_told : (Nat → Int32)} {c_many : (Nat → Int32)} {c_eights : (Nat → Int32)} {c_thrown : Int32} {c_read : (Nat → Int32)} {c_gains : (Nat → Int32)} {c_notes : (Nat → Int32)} {c_seen : (Nat → Int32)} {c_turns : (Nat → Int32)} {c_drawn : (Nat → Int32)} {c_state : Int32} {c_tape : (Nat → Int32)} {c_taped : Int32} {c_size : Int32} {c_from : Int32} {c_next : Int32} {c_token : Int32} {c_value : Int32} {c_fault : Int32} {c_number : Int32} {c_fives : (Nat → Int32)} {c_isLeft : (Nat → Int32)} {c_wentTimes : Int32} {c_goes : (Nat → Int32)} {c_isLeftLaid : Int32} {c_game : (Nat → Int32)} {c_rows : Int32} {c_columns : Int32} {c_isFound : Int32} {c_bestValue : Int64} {c_bestBelow : Int64} {c_bestShare : (Nat → Int64)} {c_share : (Nat → Int64)} {c_matrix : (Nat → Int64)} {c_system : (Nat → Int64)} {c_shares : (Nat → Int32)} {c_allShares : Int32} {v : (Nat → Int32) × (Nat → Int32)} (hf : F10_fills z w x1 x2 x3 x4 c_told c_many c_eights = some v) : xCt l yX10_fills none (j10_fills w) [.ref 0, .int x1, .int x2, .int x3, .int x4] (hM c_thrown c_told c_read c_many c_eights c_gains c_notes c_seen c_turns c_drawn c_state c_tape c_taped c_size c_from c_next c_token c_value c_fault c_number c_fives c_isLeft c_wentTimes c_goes c_isLeftLaid c_game c_rows c_columns c_isFound c_bestValue c_bestBelow c_bestShare c_share c_matrix c_system c_shares c_allShares) none (hM c_thrown c_told c_read v.1 v.2 c_gains c_notes c_seen c_turns c_drawn c_state c_tape c_taped c_size c_from c_next c_token c_value c_fault c_number c_fives c_isLeft c_wentTimes c_goes c_isLeftLaid c_game c_rows c_columns c_isFound c_bestValue c_bestBelow c_bestShare c_share c_matrix c_system c_shares c_allShares) := C10_fills_all w l hf
theorem dX10_eightsOf_0 : decode cX10_eightsOf 0 = .ok (.aload_n 0, 1) := by decide +kernel
theorem dX10_eightsOf_1 : decode cX10_eightsOf 1 = .ok (.getfield 27, 3) := by decide +kernel
theorem dX10_eightsOf_4 : decode cX10_eightsOf 4 = .ok (.sipush 128, 3) := by decide +kernel
theorem dX10_eightsOf_7 : decode cX10_eightsOf 7 = .ok (.iload_n 1, 1) := by decide +kernel
theorem dX10_eightsOf_8 : decode cX10_eightsOf 8 = .ok (.imul, 1) := by decide +kernel
theorem dX10_eightsOf_9 : decode cX10_eightsOf 9 = .ok (.iload_n 2, 1) := by decide +kernel
theorem dX10_eightsOf_10 : decode cX10_eightsOf 10 = .ok (.iadd, 1) := by decide +kernel
theorem dX10_eightsOf_11 : decode cX10_eightsOf 11 = .ok (.iaload, 1) := by decide +kernel
theorem dX10_eightsOf_12 : decode cX10_eightsOf 12 = .ok (.ireturn, 1) := by decide +kernel
abbrev j10_eightsOf : xJ := (cX10_eightsOf, 3, RX10, 1, 0, 0)
def F10_eightsOf (x1 : Int32) (x2 : Int32) (c_eights : (Nat → Int32)) : Option (Int32) :=
  xg (xin (((128 : Int32) * x1) + x2) 256) (some ((c_eights (xn (((128 : Int32) * x1) + x2)))))
theorem T10_eightsOf {X : xX} {x1 : Int32} {x2 : Int32} {c_eights : (Nat → Int32)} {c_thrown : Int32} {c_told : (Nat → Int32)} {c_read : (Nat → Int32)} {c_many : (Nat → Int32)} {c_gains : (Nat → Int32)} {c_notes : (Nat → Int32)} {c_seen : (Nat → Int32)} {c_turns : (Nat → Int32)} {c_drawn : (Nat → Int32)} {c_state : Int32} {c_tape : (Nat → Int32)} {c_taped : Int32} {c_size : Int32} {c_from : Int32} {c_next : Int32} {c_token : Int32} {c_value : Int32} {c_fault : Int32} {c_number : Int32} {c_fives : (Nat → Int32)} {c_isLeft : (Nat → Int32)} {c_wentTimes : Int32} {c_goes : (Nat → Int32)} {c_isLeftLaid : Int32} {c_game : (Nat → Int32)} {c_rows : Int32} {c_columns : Int32} {c_isFound : Int32} {c_bestValue : Int64} {c_bestBelow : Int64} {c_bestShare : (Nat → Int64)} {c_share : (Nat → Int64)} {c_matrix : (Nat → Int64)} {c_system : (Nat → Int64)} {c_shares : (Nat → Int32)} {c_allShares : Int32} {v : Int32} (hX : xIs (j10_eightsOf) X ((some .int)) (some (.int v)) (hM c_thrown c_told c_read c_many c_eights c_gains c_notes c_seen c_turns c_drawn c_state c_tape c_taped c_size c_from c_next c_token c_value c_fault c_number c_fives c_isLeft c_wentTimes c_goes c_isLeftLaid c_game c_rows c_columns c_isFound c_bestValue c_bestBelow c_bestShare c_share c_matrix c_system c_shares c_allShares)) (hf : F10_eightsOf x1 x2 c_eights = some v) : xV (j10_eightsOf) X 0 0 (hM c_thrown c_told c_read c_many c_eights c_gains c_notes c_seen c_turns c_drawn c_state c_tape c_taped c_size c_from c_next c_token c_value c_fault c_number c_fives c_isLeft c_wentTimes c_goes c_isLeftLaid c_game c_rows c_columns c_isFound c_bestValue c_bestBelow c_bestShare c_share c_matrix c_system c_shares c_allShares) 0 [(0, .ref 0), (1, .int x1), (2, .int x2)] [] := by
  unfold F10_eightsOf at hf
  refine xV_aload_n 1 rfl dX10_eightsOf_0 rfl 0 rfl ?_
  refine xV_get (v := .ref 4) 4 rfl dX10_eightsOf_1 f10_27 rfl rfl ?_
  refine xV_sipush 7 rfl dX10_eightsOf_4 xk_s128 ?_
  refine xV_iload_n 8 rfl dX10_eightsOf_7 rfl 1 rfl ?_
  refine xV_imul 9 rfl dX10_eightsOf_8 ?_
  refine xV_iload_n 10 rfl dX10_eightsOf_9 rfl 2 rfl ?_
  refine xV_iadd 11 rfl dX10_eightsOf_10 ?_
  obtain ⟨hg11, hf⟩ := xg_s hf
  refine xV_iaload 12 rfl dX10_eightsOf_11 rfl (xin_ok hg11) rfl ?_
  obtain rfl := Option.some.inj hf
  exact xV_iret hX dX10_eightsOf_12 rfl (Nat.zero_le _) (Nat.zero_le _)
theorem C10_eightsOf (l : Launch) {x1 : Int32} {x2 : Int32} {c_eights : (Nat → Int32)} {c_thrown : Int32} {c_told : (Nat → Int32)} {c_read : (Nat → Int32)} {c_many : (Nat → Int32)} {c_gains : (Nat → Int32)} {c_notes : (Nat → Int32)} {c_seen : (Nat → Int32)} {c_turns : (Nat → Int32)} {c_drawn : (Nat → Int32)} {c_state : Int32} {c_tape : (Nat → Int32)} {c_taped : Int32} {c_size : Int32} {c_from : Int32} {c_next : Int32} {c_token : Int32} {c_value : Int32} {c_fault : Int32} {c_number : Int32} {c_fives : (Nat → Int32)} {c_isLeft : (Nat → Int32)} {c_wentTimes : Int32} {c_goes : (Nat → Int32)} {c_isLeftLaid : Int32} {c_game : (Nat → Int32)} {c_rows : Int32} {c_columns : Int32} {c_isFound : Int32} {c_bestValue : Int64} {c_bestBelow : Int64} {c_bestShare : (Nat → Int64)} {c_share : (Nat → Int64)} {c_matrix : (Nat → Int64)} {c_system : (Nat → Int64)} {c_shares : (Nat → Int32)} {c_allShares : Int32} {v : Int32} (hf : F10_eightsOf x1 x2 c_eights = some v) : xCt l yX10_eightsOf ((some .int)) j10_eightsOf [.ref 0, .int x1, .int x2] (hM c_thrown c_told c_read c_many c_eights c_gains c_notes c_seen c_turns c_drawn c_state c_tape c_taped c_size c_from c_next c_token c_value c_fault c_number c_fives c_isLeft c_wentTimes c_goes c_isLeftLaid c_game c_rows c_columns c_isFound c_bestValue c_bestBelow c_bestShare c_share c_matrix c_system c_shares c_allShares) (some (.int v)) (hM c_thrown c_told c_read c_many c_eights c_gains c_notes c_seen c_turns c_drawn c_state c_tape c_taped c_size c_from c_next c_token c_value c_fault c_number c_fives c_isLeft c_wentTimes c_goes c_isLeftLaid c_game c_rows c_columns c_isFound c_bestValue c_bestBelow c_bestShare c_share c_matrix c_system c_shares c_allShares) := xCt_of (by decide) rfl (Nat.le_of_ble_eq_true rfl) (fun _ hX => T10_eightsOf hX hf)
theorem m10_eightsOf : xMd yX10_eightsOf RX10 ((some .int)) j10_eightsOf 2 := ⟨List.mem_of_getElem? (i := 164) (by decide +kernel), List.mem_of_getElem? (i := 5) (by decide +kernel), rfl, by decide +kernel⟩
theorem v10_eightsOf : xMv yX10_eightsOf RX10 := ⟨List.mem_of_getElem? (i := 162) (by decide +kernel), List.mem_of_getElem? (i := 163) (by decide +kernel)⟩
theorem xk_i3 : Int32.ofInt (3) = (3 : Int32) := by decide
theorem xk_b7 : (Int8.ofInt (7)).toInt32 = (7 : Int32) := by decide
theorem k10_86 : Cond.methodLink RX10 86 yX10_eightsOf ∈ wsL_law0 := List.mem_of_getElem? (i := 161) (by decide +kernel)
theorem dX10_on_0 : decode cX10_on 0 = .ok (.aload_n 0, 1) := by decide +kernel
theorem dX10_on_1 : decode cX10_on 1 = .ok (.iload_n 1, 1) := by decide +kernel
theorem dX10_on_2 : decode cX10_on 2 = .ok (.iload_n 2, 1) := by decide +kernel
theorem dX10_on_3 : decode cX10_on 3 = .ok (.invokevirtual 86, 3) := by decide +kernel
theorem dX10_on_6 : decode cX10_on 6 = .ok (.iconst 3, 1) := by decide +kernel
theorem dX10_on_7 : decode cX10_on 7 = .ok (.aload_n 0, 1) := by decide +kernel
theorem dX10_on_8 : decode cX10_on 8 = .ok (.getfield 17, 3) := by decide +kernel
theorem dX10_on_11 : decode cX10_on 11 = .ok (.iconst 0, 1) := by decide +kernel
theorem dX10_on_12 : decode cX10_on 12 = .ok (.iaload, 1) := by decide +kernel
theorem dX10_on_13 : decode cX10_on 13 = .ok (.iconst 1, 1) := by decide +kernel
theorem dX10_on_14 : decode cX10_on 14 = .ok (.isub, 1) := by decide +kernel
theorem dX10_on_15 : decode cX10_on 15 = .ok (.iload_n 3, 1) := by decide +kernel
theorem dX10_on_16 : decode cX10_on 16 = .ok (.isub, 1) := by decide +kernel
theorem dX10_on_17 : decode cX10_on 17 = .ok (.imul, 1) := by decide +kernel
theorem dX10_on_18 : decode cX10_on 18 = .ok (.ishr, 1) := by decide +kernel
theorem dX10_on_19 : decode cX10_on 19 = .ok (.bipush 7, 2) := by decide +kernel
theorem dX10_on_21 : decode cX10_on 21 = .ok (.iand, 1) := by decide +kernel
theorem dX10_on_22 : decode cX10_on 22 = .ok (.ireturn, 1) := by decide +kernel
abbrev j10_on : xJ := (cX10_on, 4, RX10, 2, 0, 0)
def F10_on (x1 : Int32) (x2 : Int32) (x3 : Int32) (c_told : (Nat → Int32)) (c_eights : (Nat → Int32)) : Option (Int32) :=
  (F10_eightsOf x1 x2 c_eights).bind (fun v3 => some (((v3 >>> (((3 : Int32) * (((c_told 0) - (1 : Int32)) - x3)) &&& 31)) &&& (7 : Int32))))
theorem T10_on {X : xX} {x1 : Int32} {x2 : Int32} {x3 : Int32} {c_told : (Nat → Int32)} {c_eights : (Nat → Int32)} {c_thrown : Int32} {c_read : (Nat → Int32)} {c_many : (Nat → Int32)} {c_gains : (Nat → Int32)} {c_notes : (Nat → Int32)} {c_seen : (Nat → Int32)} {c_turns : (Nat → Int32)} {c_drawn : (Nat → Int32)} {c_state : Int32} {c_tape : (Nat → Int32)} {c_taped : Int32} {c_size : Int32} {c_from : Int32} {c_next : Int32} {c_token : Int32} {c_value : Int32} {c_fault : Int32} {c_number : Int32} {c_fives : (Nat → Int32)} {c_isLeft : (Nat → Int32)} {c_wentTimes : Int32} {c_goes : (Nat → Int32)} {c_isLeftLaid : Int32} {c_game : (Nat → Int32)} {c_rows : Int32} {c_columns : Int32} {c_isFound : Int32} {c_bestValue : Int64} {c_bestBelow : Int64} {c_bestShare : (Nat → Int64)} {c_share : (Nat → Int64)} {c_matrix : (Nat → Int64)} {c_system : (Nat → Int64)} {c_shares : (Nat → Int32)} {c_allShares : Int32} {v : Int32} (hX : xIs (j10_on) X ((some .int)) (some (.int v)) (hM c_thrown c_told c_read c_many c_eights c_gains c_notes c_seen c_turns c_drawn c_state c_tape c_taped c_size c_from c_next c_token c_value c_fault c_number c_fives c_isLeft c_wentTimes c_goes c_isLeftLaid c_game c_rows c_columns c_isFound c_bestValue c_bestBelow c_bestShare c_share c_matrix c_system c_shares c_allShares)) (hf : F10_on x1 x2 x3 c_told c_eights = some v) : xV (j10_on) X 0 0 (hM c_thrown c_told c_read c_many c_eights c_gains c_notes c_seen c_turns c_drawn c_state c_tape c_taped c_size c_from c_next c_token c_value c_fault c_number c_fives c_isLeft c_wentTimes c_goes c_isLeftLaid c_game c_rows c_columns c_isFound c_bestValue c_bestBelow c_bestShare c_share c_matrix c_system c_shares c_allShares) 0 [(0, .ref 0), (1, .int x1), (2, .int x2), (3, .int x3)] [] := by
  unfold F10_on at hf
  refine xV_aload_n 1 rfl dX10_on_0 rfl 0 rfl ?_
  refine xV_iload_n 2 rfl dX10_on_1 rfl 1 rfl ?_
  refine xV_iload_n 3 rfl dX10_on_2 rfl 2 rfl ?_
  obtain ⟨v3, hv3, hf⟩ := xb_s hf
  refine xV_same (rest := []) 6 rfl dX10_on_3 rfl (C10_eightsOf X.1.2.1 hv3) m10_eightsOf v10_eightsOf k10_86 rfl rfl rfl rfl rfl (Nat.le_of_ble_eq_true rfl) (Nat.le_of_ble_eq_true rfl) (Nat.le_of_ble_eq_true rfl) ⟨Nat.le_refl _, Nat.le_refl _⟩ ?_
  show xV (j10_on) X 0 0 (hM c_thrown c_told c_read c_many c_eights c_gains c_notes c_seen c_turns c_drawn c_state c_tape c_taped c_size c_from c_next c_token c_value c_fault c_number c_fives c_isLeft c_wentTimes c_goes c_isLeftLaid c_game c_rows c_columns c_isFound c_bestValue c_bestBelow c_bestShare c_share c_matrix c_system c_shares c_allShares) 6 [(0, .ref 0), (1, .int x1), (2, .int x2), (3, .int x3)] [.int v3]
  refine xV_iconst 7 rfl dX10_on_6 xk_i3 ?_
  refine xV_aload_n 8 rfl dX10_on_7 rfl 0 rfl ?_
  refine xV_get (v := .ref 1) 11 rfl dX10_on_8 f10_17 rfl rfl ?_
  refine xV_iconst 12 rfl dX10_on_11 xk_i0 ?_
  refine xV_iaload 13 rfl dX10_on_12 rfl xk_in0_56 xk_j0 ?_
  refine xV_iconst 14 rfl dX10_on_13 xk_i1 ?_
  refine xV_isub 15 rfl dX10_on_14 ?_
  refine xV_iload_n 16 rfl dX10_on_15 rfl 3 rfl ?_
  refine xV_isub 17 rfl dX10_on_16 ?_
  refine xV_imul 18 rfl dX10_on_17 ?_
  refine xV_ishr 19 rfl dX10_on_18 ?_
  refine xV_bipush 21 rfl dX10_on_19 xk_b7 ?_
  refine xV_iand 22 rfl dX10_on_21 ?_
  obtain rfl := Option.some.inj hf
  exact xV_iret hX dX10_on_22 rfl (Nat.zero_le _) (Nat.zero_le _)
theorem C10_on (l : Launch) {x1 : Int32} {x2 : Int32} {x3 : Int32} {c_told : (Nat → Int32)} {c_eights : (Nat → Int32)} {c_thrown : Int32} {c_read : (Nat → Int32)} {c_many : (Nat → Int32)} {c_gains : (Nat → Int32)} {c_notes : (Nat → Int32)} {c_seen : (Nat → Int32)} {c_turns : (Nat → Int32)} {c_drawn : (Nat → Int32)} {c_state : Int32} {c_tape : (Nat → Int32)} {c_taped : Int32} {c_size : Int32} {c_from : Int32} {c_next : Int32} {c_token : Int32} {c_value : Int32} {c_fault : Int32} {c_number : Int32} {c_fives : (Nat → Int32)} {c_isLeft : (Nat → Int32)} {c_wentTimes : Int32} {c_goes : (Nat → Int32)} {c_isLeftLaid : Int32} {c_game : (Nat → Int32)} {c_rows : Int32} {c_columns : Int32} {c_isFound : Int32} {c_bestValue : Int64} {c_bestBelow : Int64} {c_bestShare : (Nat → Int64)} {c_share : (Nat → Int64)} {c_matrix : (Nat → Int64)} {c_system : (Nat → Int64)} {c_shares : (Nat → Int32)} {c_allShares : Int32} {v : Int32} (hf : F10_on x1 x2 x3 c_told c_eights = some v) : xCt l yX10_on ((some .int)) j10_on [.ref 0, .int x1, .int x2, .int x3] (hM c_thrown c_told c_read c_many c_eights c_gains c_notes c_seen c_turns c_drawn c_state c_tape c_taped c_size c_from c_next c_token c_value c_fault c_number c_fives c_isLeft c_wentTimes c_goes c_isLeftLaid c_game c_rows c_columns c_isFound c_bestValue c_bestBelow c_bestShare c_share c_matrix c_system c_shares c_allShares) (some (.int v)) (hM c_thrown c_told c_read c_many c_eights c_gains c_notes c_seen c_turns c_drawn c_state c_tape c_taped c_size c_from c_next c_token c_value c_fault c_number c_fives c_isLeft c_wentTimes c_goes c_isLeftLaid c_game c_rows c_columns c_isFound c_bestValue c_bestBelow c_bestShare c_share c_matrix c_system c_shares c_allShares) := xCt_of (by decide) rfl (Nat.le_of_ble_eq_true rfl) (fun _ hX => T10_on hX hf)
theorem m10_on : xMd yX10_on RX10 ((some .int)) j10_on 3 := ⟨List.mem_of_getElem? (i := 160) (by decide +kernel), List.mem_of_getElem? (i := 5) (by decide +kernel), rfl, by decide +kernel⟩
theorem v10_on : xMv yX10_on RX10 := ⟨List.mem_of_getElem? (i := 158) (by decide +kernel), List.mem_of_getElem? (i := 159) (by decide +kernel)⟩
theorem dX10_worth_0 : decode cX10_worth 0 = .ok (.aload_n 0, 1) := by decide +kernel
theorem dX10_worth_1 : decode cX10_worth 1 = .ok (.getfield 17, 3) := by decide +kernel
theorem dX10_worth_4 : decode cX10_worth 4 = .ok (.iconst 1, 1) := by decide +kernel
theorem dX10_worth_5 : decode cX10_worth 5 = .ok (.iload_n 1, 1) := by decide +kernel
theorem dX10_worth_6 : decode cX10_worth 6 = .ok (.iadd, 1) := by decide +kernel
theorem dX10_worth_7 : decode cX10_worth 7 = .ok (.iaload, 1) := by decide +kernel
theorem dX10_worth_8 : decode cX10_worth 8 = .ok (.ireturn, 1) := by decide +kernel
abbrev j10_worth : xJ := (cX10_worth, 2, RX10, 1, 0, 0)
def F10_worth (x1 : Int32) (c_told : (Nat → Int32)) : Option (Int32) :=
  xg (xin ((1 : Int32) + x1) 56) (some ((c_told (xn ((1 : Int32) + x1)))))
theorem T10_worth {X : xX} {x1 : Int32} {c_told : (Nat → Int32)} {c_thrown : Int32} {c_read : (Nat → Int32)} {c_many : (Nat → Int32)} {c_eights : (Nat → Int32)} {c_gains : (Nat → Int32)} {c_notes : (Nat → Int32)} {c_seen : (Nat → Int32)} {c_turns : (Nat → Int32)} {c_drawn : (Nat → Int32)} {c_state : Int32} {c_tape : (Nat → Int32)} {c_taped : Int32} {c_size : Int32} {c_from : Int32} {c_next : Int32} {c_token : Int32} {c_value : Int32} {c_fault : Int32} {c_number : Int32} {c_fives : (Nat → Int32)} {c_isLeft : (Nat → Int32)} {c_wentTimes : Int32} {c_goes : (Nat → Int32)} {c_isLeftLaid : Int32} {c_game : (Nat → Int32)} {c_rows : Int32} {c_columns : Int32} {c_isFound : Int32} {c_bestValue : Int64} {c_bestBelow : Int64} {c_bestShare : (Nat → Int64)} {c_share : (Nat → Int64)} {c_matrix : (Nat → Int64)} {c_system : (Nat → Int64)} {c_shares : (Nat → Int32)} {c_allShares : Int32} {v : Int32} (hX : xIs (j10_worth) X ((some .int)) (some (.int v)) (hM c_thrown c_told c_read c_many c_eights c_gains c_notes c_seen c_turns c_drawn c_state c_tape c_taped c_size c_from c_next c_token c_value c_fault c_number c_fives c_isLeft c_wentTimes c_goes c_isLeftLaid c_game c_rows c_columns c_isFound c_bestValue c_bestBelow c_bestShare c_share c_matrix c_system c_shares c_allShares)) (hf : F10_worth x1 c_told = some v) : xV (j10_worth) X 0 0 (hM c_thrown c_told c_read c_many c_eights c_gains c_notes c_seen c_turns c_drawn c_state c_tape c_taped c_size c_from c_next c_token c_value c_fault c_number c_fives c_isLeft c_wentTimes c_goes c_isLeftLaid c_game c_rows c_columns c_isFound c_bestValue c_bestBelow c_bestShare c_share c_matrix c_system c_shares c_allShares) 0 [(0, .ref 0), (1, .int x1)] [] := by
  unfold F10_worth at hf
  refine xV_aload_n 1 rfl dX10_worth_0 rfl 0 rfl ?_
  refine xV_get (v := .ref 1) 4 rfl dX10_worth_1 f10_17 rfl rfl ?_
  refine xV_iconst 5 rfl dX10_worth_4 xk_i1 ?_
  refine xV_iload_n 6 rfl dX10_worth_5 rfl 1 rfl ?_
  refine xV_iadd 7 rfl dX10_worth_6 ?_
  obtain ⟨hg7, hf⟩ := xg_s hf
  refine xV_iaload 8 rfl dX10_worth_7 rfl (xin_ok hg7) rfl ?_
  obtain rfl := Option.some.inj hf
  exact xV_iret hX dX10_worth_8 rfl (Nat.zero_le _) (Nat.zero_le _)
theorem C10_worth (l : Launch) {x1 : Int32} {c_told : (Nat → Int32)} {c_thrown : Int32} {c_read : (Nat → Int32)} {c_many : (Nat → Int32)} {c_eights : (Nat → Int32)} {c_gains : (Nat → Int32)} {c_notes : (Nat → Int32)} {c_seen : (Nat → Int32)} {c_turns : (Nat → Int32)} {c_drawn : (Nat → Int32)} {c_state : Int32} {c_tape : (Nat → Int32)} {c_taped : Int32} {c_size : Int32} {c_from : Int32} {c_next : Int32} {c_token : Int32} {c_value : Int32} {c_fault : Int32} {c_number : Int32} {c_fives : (Nat → Int32)} {c_isLeft : (Nat → Int32)} {c_wentTimes : Int32} {c_goes : (Nat → Int32)} {c_isLeftLaid : Int32} {c_game : (Nat → Int32)} {c_rows : Int32} {c_columns : Int32} {c_isFound : Int32} {c_bestValue : Int64} {c_bestBelow : Int64} {c_bestShare : (Nat → Int64)} {c_share : (Nat → Int64)} {c_matrix : (Nat → Int64)} {c_system : (Nat → Int64)} {c_shares : (Nat → Int32)} {c_allShares : Int32} {v : Int32} (hf : F10_worth x1 c_told = some v) : xCt l yX10_worth ((some .int)) j10_worth [.ref 0, .int x1] (hM c_thrown c_told c_read c_many c_eights c_gains c_notes c_seen c_turns c_drawn c_state c_tape c_taped c_size c_from c_next c_token c_value c_fault c_number c_fives c_isLeft c_wentTimes c_goes c_isLeftLaid c_game c_rows c_columns c_isFound c_bestValue c_bestBelow c_bestShare c_share c_matrix c_system c_shares c_allShares) (some (.int v)) (hM c_thrown c_told c_read c_many c_eights c_gains c_notes c_seen c_turns c_drawn c_state c_tape c_taped c_size c_from c_next c_token c_value c_fault c_number c_fives c_isLeft c_wentTimes c_goes c_isLeftLaid c_game c_rows c_columns c_isFound c_bestValue c_bestBelow c_bestShare c_share c_matrix c_system c_shares c_allShares) := xCt_of (by decide) rfl (Nat.le_of_ble_eq_true rfl) (fun _ hX => T10_worth hX hf)
theorem m10_worth : xMd yX10_worth RX10 ((some .int)) j10_worth 1 := ⟨List.mem_of_getElem? (i := 168) (by decide +kernel), List.mem_of_getElem? (i := 5) (by decide +kernel), rfl, by decide +kernel⟩
theorem v10_worth : xMv yX10_worth RX10 := ⟨List.mem_of_getElem? (i := 166) (by decide +kernel), List.mem_of_getElem? (i := 167) (by decide +kernel)⟩
theorem xk_in7_56 : vp_in (7 : Int32) 56 := xin_ok (by decide)
theorem xk_j7 : (7 : Int32).toNatClampNeg = 7 := by decide
theorem xk_i2 : Int32.ofInt (2) = (2 : Int32) := by decide
theorem xk_im1 : Int32.ofInt (-1) = (-1 : Int32) := by decide
theorem k10_90 : Cond.methodLink RX10 90 yX10_on ∈ wsL_law0 := List.mem_of_getElem? (i := 157) (by decide +kernel)
theorem k10_94 : Cond.methodLink RX10 94 yX10_worth ∈ wsL_law0 := List.mem_of_getElem? (i := 165) (by decide +kernel)
theorem dX10_gainOf_0 : decode cX10_gainOf 0 = .ok (.iconst 0, 1) := by decide +kernel
theorem dX10_gainOf_1 : decode cX10_gainOf 1 = .ok (.istore_n 3, 1) := by decide +kernel
theorem dX10_gainOf_2 : decode cX10_gainOf 2 = .ok (.iconst 0, 1) := by decide +kernel
theorem dX10_gainOf_3 : decode cX10_gainOf 3 = .ok (.istore 4, 2) := by decide +kernel
theorem dX10_gainOf_5 : decode cX10_gainOf 5 = .ok (.iload 4, 2) := by decide +kernel
theorem dX10_gainOf_7 : decode cX10_gainOf 7 = .ok (.aload_n 0, 1) := by decide +kernel
theorem dX10_gainOf_8 : decode cX10_gainOf 8 = .ok (.getfield 17, 3) := by decide +kernel
theorem dX10_gainOf_11 : decode cX10_gainOf 11 = .ok (.iconst 0, 1) := by decide +kernel
theorem dX10_gainOf_12 : decode cX10_gainOf 12 = .ok (.iaload, 1) := by decide +kernel
theorem dX10_gainOf_13 : decode cX10_gainOf 13 = .ok (.if_icmp .ge 88, 3) := by decide +kernel
theorem dX10_gainOf_16 : decode cX10_gainOf 16 = .ok (.aload_n 0, 1) := by decide +kernel
theorem dX10_gainOf_17 : decode cX10_gainOf 17 = .ok (.iconst 0, 1) := by decide +kernel
theorem dX10_gainOf_18 : decode cX10_gainOf 18 = .ok (.iload_n 1, 1) := by decide +kernel
theorem dX10_gainOf_19 : decode cX10_gainOf 19 = .ok (.iload 4, 2) := by decide +kernel
theorem dX10_gainOf_21 : decode cX10_gainOf 21 = .ok (.invokevirtual 90, 3) := by decide +kernel
theorem dX10_gainOf_24 : decode cX10_gainOf 24 = .ok (.aload_n 0, 1) := by decide +kernel
theorem dX10_gainOf_25 : decode cX10_gainOf 25 = .ok (.iconst 1, 1) := by decide +kernel
theorem dX10_gainOf_26 : decode cX10_gainOf 26 = .ok (.iload_n 2, 1) := by decide +kernel
theorem dX10_gainOf_27 : decode cX10_gainOf 27 = .ok (.iload 4, 2) := by decide +kernel
theorem dX10_gainOf_29 : decode cX10_gainOf 29 = .ok (.invokevirtual 90, 3) := by decide +kernel
theorem dX10_gainOf_32 : decode cX10_gainOf 32 = .ok (.isub, 1) := by decide +kernel
theorem dX10_gainOf_33 : decode cX10_gainOf 33 = .ok (.istore 5, 2) := by decide +kernel
theorem dX10_gainOf_35 : decode cX10_gainOf 35 = .ok (.iload 5, 2) := by decide +kernel
theorem dX10_gainOf_37 : decode cX10_gainOf 37 = .ok (.ifCond .gt 19, 3) := by decide +kernel
theorem dX10_gainOf_40 : decode cX10_gainOf 40 = .ok (.iload 5, 2) := by decide +kernel
theorem dX10_gainOf_42 : decode cX10_gainOf 42 = .ok (.ifCond .ne 18, 3) := by decide +kernel
theorem dX10_gainOf_45 : decode cX10_gainOf 45 = .ok (.aload_n 0, 1) := by decide +kernel
theorem dX10_gainOf_46 : decode cX10_gainOf 46 = .ok (.getfield 17, 3) := by decide +kernel
theorem dX10_gainOf_49 : decode cX10_gainOf 49 = .ok (.bipush 7, 2) := by decide +kernel
theorem dX10_gainOf_51 : decode cX10_gainOf 51 = .ok (.iaload, 1) := by decide +kernel
theorem dX10_gainOf_52 : decode cX10_gainOf 52 = .ok (.iconst 1, 1) := by decide +kernel
theorem dX10_gainOf_53 : decode cX10_gainOf 53 = .ok (.if_icmp .ne 7, 3) := by decide +kernel
theorem dX10_gainOf_56 : decode cX10_gainOf 56 = .ok (.iconst 1, 1) := by decide +kernel
theorem dX10_gainOf_57 : decode cX10_gainOf 57 = .ok (.goto 24, 3) := by decide +kernel
theorem dX10_gainOf_60 : decode cX10_gainOf 60 = .ok (.iload 5, 2) := by decide +kernel
theorem dX10_gainOf_62 : decode cX10_gainOf 62 = .ok (.ifCond .lt 14, 3) := by decide +kernel
theorem dX10_gainOf_65 : decode cX10_gainOf 65 = .ok (.aload_n 0, 1) := by decide +kernel
theorem dX10_gainOf_66 : decode cX10_gainOf 66 = .ok (.getfield 17, 3) := by decide +kernel
theorem dX10_gainOf_69 : decode cX10_gainOf 69 = .ok (.bipush 7, 2) := by decide +kernel
theorem dX10_gainOf_71 : decode cX10_gainOf 71 = .ok (.iaload, 1) := by decide +kernel
theorem dX10_gainOf_72 : decode cX10_gainOf 72 = .ok (.iconst 2, 1) := by decide +kernel
theorem dX10_gainOf_73 : decode cX10_gainOf 73 = .ok (.if_icmp .ne 7, 3) := by decide +kernel
theorem dX10_gainOf_76 : decode cX10_gainOf 76 = .ok (.iconst (-1), 1) := by decide +kernel
theorem dX10_gainOf_77 : decode cX10_gainOf 77 = .ok (.goto 4, 3) := by decide +kernel
theorem dX10_gainOf_80 : decode cX10_gainOf 80 = .ok (.iconst 0, 1) := by decide +kernel
theorem dX10_gainOf_81 : decode cX10_gainOf 81 = .ok (.istore 6, 2) := by decide +kernel
theorem dX10_gainOf_83 : decode cX10_gainOf 83 = .ok (.iload_n 3, 1) := by decide +kernel
theorem dX10_gainOf_84 : decode cX10_gainOf 84 = .ok (.iload 6, 2) := by decide +kernel
theorem dX10_gainOf_86 : decode cX10_gainOf 86 = .ok (.aload_n 0, 1) := by decide +kernel
theorem dX10_gainOf_87 : decode cX10_gainOf 87 = .ok (.iload 4, 2) := by decide +kernel
theorem dX10_gainOf_89 : decode cX10_gainOf 89 = .ok (.invokevirtual 94, 3) := by decide +kernel
theorem dX10_gainOf_92 : decode cX10_gainOf 92 = .ok (.imul, 1) := by decide +kernel
theorem dX10_gainOf_93 : decode cX10_gainOf 93 = .ok (.iadd, 1) := by decide +kernel
theorem dX10_gainOf_94 : decode cX10_gainOf 94 = .ok (.istore_n 3, 1) := by decide +kernel
theorem dX10_gainOf_95 : decode cX10_gainOf 95 = .ok (.iinc 4 1, 3) := by decide +kernel
theorem dX10_gainOf_98 : decode cX10_gainOf 98 = .ok (.goto (-93), 3) := by decide +kernel
theorem dX10_gainOf_101 : decode cX10_gainOf 101 = .ok (.iload_n 3, 1) := by decide +kernel
theorem dX10_gainOf_102 : decode cX10_gainOf 102 = .ok (.ireturn, 1) := by decide +kernel
abbrev j10_gainOf : xJ := (cX10_gainOf, 7, RX10, 3, 0, 0)
def F10_gainOf_b81 (z : Nat) (x1 : Int32) (x2 : Int32) (x3 : Int32) (x4 : Int32) (s0 : Int32) (c_told : (Nat → Int32)) (c_eights : (Nat → Int32)) (k5 : Int32 → Int32 → Int32 → Int32 → (Nat → Int32) → (Nat → Int32) → Option (Int32)) : Option (Int32) :=
  (F10_worth x4 c_told).bind (fun v89 => k5 x1 x2 (x3 + (s0 * v89)) (x4 + (1 : Int32)) c_told c_eights)
theorem T10_gainOf_b81 {X : xX} {c_thrown : Int32} {c_read : (Nat → Int32)} {c_many : (Nat → Int32)} {c_gains : (Nat → Int32)} {c_notes : (Nat → Int32)} {c_seen : (Nat → Int32)} {c_turns : (Nat → Int32)} {c_drawn : (Nat → Int32)} {c_state : Int32} {c_tape : (Nat → Int32)} {c_taped : Int32} {c_size : Int32} {c_from : Int32} {c_next : Int32} {c_token : Int32} {c_value : Int32} {c_fault : Int32} {c_number : Int32} {c_fives : (Nat → Int32)} {c_isLeft : (Nat → Int32)} {c_wentTimes : Int32} {c_goes : (Nat → Int32)} {c_isLeftLaid : Int32} {c_game : (Nat → Int32)} {c_rows : Int32} {c_columns : Int32} {c_isFound : Int32} {c_bestValue : Int64} {c_bestBelow : Int64} {c_bestShare : (Nat → Int64)} {c_share : (Nat → Int64)} {c_matrix : (Nat → Int64)} {c_system : (Nat → Int64)} {c_shares : (Nat → Int32)} {c_allShares : Int32} {x1 : Int32} {x2 : Int32} {x3 : Int32} {x4 : Int32} {s0 : Int32} {c_told : (Nat → Int32)} {c_eights : (Nat → Int32)} {z : Nat} {v : Int32} {k5 : Int32 → Int32 → Int32 → Int32 → (Nat → Int32) → (Nat → Int32) → Option (Int32)} (hX : xIs (j10_gainOf) X ((some .int)) (some (.int v)) (hM c_thrown c_told c_read c_many c_eights c_gains c_notes c_seen c_turns c_drawn c_state c_tape c_taped c_size c_from c_next c_token c_value c_fault c_number c_fives c_isLeft c_wentTimes c_goes c_isLeftLaid c_game c_rows c_columns c_isFound c_bestValue c_bestBelow c_bestShare c_share c_matrix c_system c_shares c_allShares)) (hk5 : ∀ {x1 : Int32} {x2 : Int32} {x3 : Int32} {x4 : Int32}, k5 x1 x2 x3 x4 c_told c_eights = some v → xV (j10_gainOf) X 0 0 (hM c_thrown c_told c_read c_many c_eights c_gains c_notes c_seen c_turns c_drawn c_state c_tape c_taped c_size c_from c_next c_token c_value c_fault c_number c_fives c_isLeft c_wentTimes c_goes c_isLeftLaid c_game c_rows c_columns c_isFound c_bestValue c_bestBelow c_bestShare c_share c_matrix c_system c_shares c_allShares) 5 [(0, .ref 0), (1, .int x1), (2, .int x2), (3, .int x3), (4, .int x4)] []) (hf : F10_gainOf_b81 z x1 x2 x3 x4 s0 c_told c_eights k5 = some v) : xV (j10_gainOf) X 0 0 (hM c_thrown c_told c_read c_many c_eights c_gains c_notes c_seen c_turns c_drawn c_state c_tape c_taped c_size c_from c_next c_token c_value c_fault c_number c_fives c_isLeft c_wentTimes c_goes c_isLeftLaid c_game c_rows c_columns c_isFound c_bestValue c_bestBelow c_bestShare c_share c_matrix c_system c_shares c_allShares) 81 [(0, .ref 0), (1, .int x1), (2, .int x2), (3, .int x3), (4, .int x4)] [.int s0] := by
  unfold F10_gainOf_b81 at hf
  refine xV_istore (L' := [(6, .int s0), (0, .ref 0), (1, .int x1), (2, .int x2), (3, .int x3), (4, .int x4)]) 83 rfl dX10_gainOf_81 (xlt rfl) rfl ?_
  refine xV_iload_n 84 rfl dX10_gainOf_83 rfl 4 rfl ?_
  refine xV_iload 86 rfl dX10_gainOf_84 0 rfl ?_
  refine xV_aload_n 87 rfl dX10_gainOf_86 rfl 1 rfl ?_
  refine xV_iload 89 rfl dX10_gainOf_87 5 rfl ?_
  obtain ⟨v89, hv89, hf⟩ := xb_s hf
  refine xV_same (rest := [.int s0, .int x3]) 92 rfl dX10_gainOf_89 rfl (C10_worth X.1.2.1 hv89) m10_worth v10_worth k10_94 rfl rfl rfl rfl rfl (Nat.le_of_ble_eq_true rfl) (Nat.le_of_ble_eq_true rfl) (Nat.le_of_ble_eq_true rfl) ⟨Nat.le_refl _, Nat.le_refl _⟩ ?_
  show xV (j10_gainOf) X 0 0 (hM c_thrown c_told c_read c_many c_eights c_gains c_notes c_seen c_turns c_drawn c_state c_tape c_taped c_size c_from c_next c_token c_value c_fault c_number c_fives c_isLeft c_wentTimes c_goes c_isLeftLaid c_game c_rows c_columns c_isFound c_bestValue c_bestBelow c_bestShare c_share c_matrix c_system c_shares c_allShares) 92 [(6, .int s0), (0, .ref 0), (1, .int x1), (2, .int x2), (3, .int x3), (4, .int x4)] [.int v89, .int s0, .int x3]
  refine xV_imul 93 rfl dX10_gainOf_92 ?_
  refine xV_iadd 94 rfl dX10_gainOf_93 ?_
  refine xV_istore_n (L' := [(3, .int (x3 + (s0 * v89))), (6, .int s0), (0, .ref 0), (1, .int x1), (2, .int x2), (4, .int x4)]) 95 rfl dX10_gainOf_94 rfl (xlt rfl) rfl ?_
  refine xV_iinc (L' := [(4, .int (x4 + (1 : Int32))), (3, .int (x3 + (s0 * v89))), (6, .int s0), (0, .ref 0), (1, .int x1), (2, .int x2)]) 98 rfl dX10_gainOf_95 5 rfl (xk_inc xk_i1) (xlt rfl) rfl ?_
  refine xV_goto (tgt := 5) dX10_gainOf_98 (by decide) ?_
  refine xV_sub [3, 4, 5, 1, 0] rfl ?_
  exact hk5 hf
def F10_gainOf_b60 (z : Nat) (x1 : Int32) (x2 : Int32) (x3 : Int32) (x4 : Int32) (x5 : Int32) (c_told : (Nat → Int32)) (c_eights : (Nat → Int32)) (k5 : Int32 → Int32 → Int32 → Int32 → (Nat → Int32) → (Nat → Int32) → Option (Int32)) : Option (Int32) :=
  if x5 < 0 then (F10_gainOf_b81 z x1 x2 x3 x4 (-1 : Int32) c_told c_eights k5) else (if (c_told 7) = (2 : Int32) then (F10_gainOf_b81 z x1 x2 x3 x4 (-1 : Int32) c_told c_eights k5) else (F10_gainOf_b81 z x1 x2 x3 x4 (0 : Int32) c_told c_eights k5))
theorem T10_gainOf_b60 {X : xX} {c_thrown : Int32} {c_read : (Nat → Int32)} {c_many : (Nat → Int32)} {c_gains : (Nat → Int32)} {c_notes : (Nat → Int32)} {c_seen : (Nat → Int32)} {c_turns : (Nat → Int32)} {c_drawn : (Nat → Int32)} {c_state : Int32} {c_tape : (Nat → Int32)} {c_taped : Int32} {c_size : Int32} {c_from : Int32} {c_next : Int32} {c_token : Int32} {c_value : Int32} {c_fault : Int32} {c_number : Int32} {c_fives : (Nat → Int32)} {c_isLeft : (Nat → Int32)} {c_wentTimes : Int32} {c_goes : (Nat → Int32)} {c_isLeftLaid : Int32} {c_game : (Nat → Int32)} {c_rows : Int32} {c_columns : Int32} {c_isFound : Int32} {c_bestValue : Int64} {c_bestBelow : Int64} {c_bestShare : (Nat → Int64)} {c_share : (Nat → Int64)} {c_matrix : (Nat → Int64)} {c_system : (Nat → Int64)} {c_shares : (Nat → Int32)} {c_allShares : Int32} {x1 : Int32} {x2 : Int32} {x3 : Int32} {x4 : Int32} {x5 : Int32} {c_told : (Nat → Int32)} {c_eights : (Nat → Int32)} {z : Nat} {v : Int32} {k5 : Int32 → Int32 → Int32 → Int32 → (Nat → Int32) → (Nat → Int32) → Option (Int32)} (hX : xIs (j10_gainOf) X ((some .int)) (some (.int v)) (hM c_thrown c_told c_read c_many c_eights c_gains c_notes c_seen c_turns c_drawn c_state c_tape c_taped c_size c_from c_next c_token c_value c_fault c_number c_fives c_isLeft c_wentTimes c_goes c_isLeftLaid c_game c_rows c_columns c_isFound c_bestValue c_bestBelow c_bestShare c_share c_matrix c_system c_shares c_allShares)) (hk5 : ∀ {x1 : Int32} {x2 : Int32} {x3 : Int32} {x4 : Int32}, k5 x1 x2 x3 x4 c_told c_eights = some v → xV (j10_gainOf) X 0 0 (hM c_thrown c_told c_read c_many c_eights c_gains c_notes c_seen c_turns c_drawn c_state c_tape c_taped c_size c_from c_next c_token c_value c_fault c_number c_fives c_isLeft c_wentTimes c_goes c_isLeftLaid c_game c_rows c_columns c_isFound c_bestValue c_bestBelow c_bestShare c_share c_matrix c_system c_shares c_allShares) 5 [(0, .ref 0), (1, .int x1), (2, .int x2), (3, .int x3), (4, .int x4)] []) (hf : F10_gainOf_b60 z x1 x2 x3 x4 x5 c_told c_eights k5 = some v) : xV (j10_gainOf) X 0 0 (hM c_thrown c_told c_read c_many c_eights c_gains c_notes c_seen c_turns c_drawn c_state c_tape c_taped c_size c_from c_next c_token c_value c_fault c_number c_fives c_isLeft c_wentTimes c_goes c_isLeftLaid c_game c_rows c_columns c_isFound c_bestValue c_bestBelow c_bestShare c_share c_matrix c_system c_shares c_allShares) 60 [(0, .ref 0), (1, .int x1), (2, .int x2), (3, .int x3), (4, .int x4), (5, .int x5)] [] := by
  unfold F10_gainOf_b60 at hf
  refine xV_iload 62 rfl dX10_gainOf_60 5 rfl ?_
  refine xV_if_lt (tgt := 76) 65 rfl dX10_gainOf_62 (by decide) (fun h62 => ?_) (fun h62 => ?_)
  · have hf := xif_t hf h62
    refine xV_iconst 77 rfl dX10_gainOf_76 xk_im1 ?_
    refine xV_goto (tgt := 81) dX10_gainOf_77 (by decide) ?_
    refine xV_sub [0, 1, 2, 3, 4] rfl ?_
    exact T10_gainOf_b81 hX hk5 hf
  · have hf := xif_f hf h62
    refine xV_aload_n 66 rfl dX10_gainOf_65 rfl 0 rfl ?_
    refine xV_get (v := .ref 1) 69 rfl dX10_gainOf_66 f10_17 rfl rfl ?_
    refine xV_bipush 71 rfl dX10_gainOf_69 xk_b7 ?_
    refine xV_iaload 72 rfl dX10_gainOf_71 rfl xk_in7_56 xk_j7 ?_
    refine xV_iconst 73 rfl dX10_gainOf_72 xk_i2 ?_
    refine xV_icmp_ne (tgt := 80) 76 rfl dX10_gainOf_73 (by decide) (fun h73 => ?_) (fun h73 => ?_)
    · have hf := xif_f hf h73
      refine xV_iconst 81 rfl dX10_gainOf_80 xk_i0 ?_
      refine xV_sub [0, 1, 2, 3, 4] rfl ?_
      exact T10_gainOf_b81 hX hk5 hf
    · have hf := xif_t hf h73
      refine xV_iconst 77 rfl dX10_gainOf_76 xk_im1 ?_
      refine xV_goto (tgt := 81) dX10_gainOf_77 (by decide) ?_
      refine xV_sub [0, 1, 2, 3, 4] rfl ?_
      exact T10_gainOf_b81 hX hk5 hf
def F10_gainOf_b5 (z : Nat) (w : Nat) (x1 : Int32) (x2 : Int32) (x3 : Int32) (x4 : Int32) (c_told : (Nat → Int32)) (c_eights : (Nat → Int32)) : Option (Int32) := match w with
  | 0 => none
  | w + 1 => if (c_told 0) ≤ x4 then (some (x3)) else ((F10_on (0 : Int32) x1 x4 c_told c_eights).bind (fun v21 => (F10_on (1 : Int32) x2 x4 c_told c_eights).bind (fun v29 => if 0 < (v21 - v29) then (F10_gainOf_b81 z x1 x2 x3 x4 (1 : Int32) c_told c_eights (fun q0 q1 q2 q3 q4 q5 => F10_gainOf_b5 z w q0 q1 q2 q3 q4 q5)) else (if (v21 - v29) = 0 then (if (c_told 7) = (1 : Int32) then (F10_gainOf_b81 z x1 x2 x3 x4 (1 : Int32) c_told c_eights (fun q0 q1 q2 q3 q4 q5 => F10_gainOf_b5 z w q0 q1 q2 q3 q4 q5)) else (F10_gainOf_b60 z x1 x2 x3 x4 (v21 - v29) c_told c_eights (fun q0 q1 q2 q3 q4 q5 => F10_gainOf_b5 z w q0 q1 q2 q3 q4 q5))) else (F10_gainOf_b60 z x1 x2 x3 x4 (v21 - v29) c_told c_eights (fun q0 q1 q2 q3 q4 q5 => F10_gainOf_b5 z w q0 q1 q2 q3 q4 q5))))))
theorem T10_gainOf_b5 {X : xX} {c_thrown : Int32} {c_told : (Nat → Int32)} {c_read : (Nat → Int32)} {c_many : (Nat → Int32)} {c_eights : (Nat → Int32)} {c_gains : (Nat → Int32)} {c_notes : (Nat → Int32)} {c_seen : (Nat → Int32)} {c_turns : (Nat → Int32)} {c_drawn : (Nat → Int32)} {c_state : Int32} {c_tape : (Nat → Int32)} {c_taped : Int32} {c_size : Int32} {c_from : Int32} {c_next : Int32} {c_token : Int32} {c_value : Int32} {c_fault : Int32} {c_number : Int32} {c_fives : (Nat → Int32)} {c_isLeft : (Nat → Int32)} {c_wentTimes : Int32} {c_goes : (Nat → Int32)} {c_isLeftLaid : Int32} {c_game : (Nat → Int32)} {c_rows : Int32} {c_columns : Int32} {c_isFound : Int32} {c_bestValue : Int64} {c_bestBelow : Int64} {c_bestShare : (Nat → Int64)} {c_share : (Nat → Int64)} {c_matrix : (Nat → Int64)} {c_system : (Nat → Int64)} {c_shares : (Nat → Int32)} {c_allShares : Int32} {z : Nat} {v : Int32} (hX : xIs (j10_gainOf) X ((some .int)) (some (.int v)) (hM c_thrown c_told c_read c_many c_eights c_gains c_notes c_seen c_turns c_drawn c_state c_tape c_taped c_size c_from c_next c_token c_value c_fault c_number c_fives c_isLeft c_wentTimes c_goes c_isLeftLaid c_game c_rows c_columns c_isFound c_bestValue c_bestBelow c_bestShare c_share c_matrix c_system c_shares c_allShares)) : ∀ (w : Nat) {x1 : Int32} {x2 : Int32} {x3 : Int32} {x4 : Int32}, F10_gainOf_b5 z w x1 x2 x3 x4 c_told c_eights = some v → xV (j10_gainOf) X 0 0 (hM c_thrown c_told c_read c_many c_eights c_gains c_notes c_seen c_turns c_drawn c_state c_tape c_taped c_size c_from c_next c_token c_value c_fault c_number c_fives c_isLeft c_wentTimes c_goes c_isLeftLaid c_game c_rows c_columns c_isFound c_bestValue c_bestBelow c_bestShare c_share c_matrix c_system c_shares c_allShares) 5 [(0, .ref 0), (1, .int x1), (2, .int x2), (3, .int x3), (4, .int x4)] [] := by
  intro w
  induction w with
  | zero => intro x1 x2 x3 x4 hf; cases hf
  | succ w ih =>
    intro x1 x2 x3 x4 hf
    unfold F10_gainOf_b5 at hf
    refine xV_iload 7 rfl dX10_gainOf_5 4 rfl ?_
    refine xV_aload_n 8 rfl dX10_gainOf_7 rfl 0 rfl ?_
    refine xV_get (v := .ref 1) 11 rfl dX10_gainOf_8 f10_17 rfl rfl ?_
    refine xV_iconst 12 rfl dX10_gainOf_11 xk_i0 ?_
    refine xV_iaload 13 rfl dX10_gainOf_12 rfl xk_in0_56 xk_j0 ?_
    refine xV_icmp_ge (tgt := 101) 16 rfl dX10_gainOf_13 (by decide) (fun h13 => ?_) (fun h13 => ?_)
    · have hf := xif_t hf h13
      refine xV_iload_n 102 rfl dX10_gainOf_101 rfl 3 rfl ?_
      obtain rfl := Option.some.inj hf
      exact xV_iret hX dX10_gainOf_102 rfl (Nat.zero_le _) (Nat.zero_le _)
    · have hf := xif_f hf h13
      refine xV_aload_n 17 rfl dX10_gainOf_16 rfl 0 rfl ?_
      refine xV_iconst 18 rfl dX10_gainOf_17 xk_i0 ?_
      refine xV_iload_n 19 rfl dX10_gainOf_18 rfl 1 rfl ?_
      refine xV_iload 21 rfl dX10_gainOf_19 4 rfl ?_
      obtain ⟨v21, hv21, hf⟩ := xb_s hf
      refine xV_same (rest := []) 24 rfl dX10_gainOf_21 rfl (C10_on X.1.2.1 hv21) m10_on v10_on k10_90 rfl rfl rfl rfl rfl (Nat.le_of_ble_eq_true rfl) (Nat.le_of_ble_eq_true rfl) (Nat.le_of_ble_eq_true rfl) ⟨Nat.le_refl _, Nat.le_refl _⟩ ?_
      show xV (j10_gainOf) X 0 0 (hM c_thrown c_told c_read c_many c_eights c_gains c_notes c_seen c_turns c_drawn c_state c_tape c_taped c_size c_from c_next c_token c_value c_fault c_number c_fives c_isLeft c_wentTimes c_goes c_isLeftLaid c_game c_rows c_columns c_isFound c_bestValue c_bestBelow c_bestShare c_share c_matrix c_system c_shares c_allShares) 24 [(0, .ref 0), (1, .int x1), (2, .int x2), (3, .int x3), (4, .int x4)] [.int v21]
      refine xV_aload_n 25 rfl dX10_gainOf_24 rfl 0 rfl ?_
      refine xV_iconst 26 rfl dX10_gainOf_25 xk_i1 ?_
      refine xV_iload_n 27 rfl dX10_gainOf_26 rfl 2 rfl ?_
      refine xV_iload 29 rfl dX10_gainOf_27 4 rfl ?_
      obtain ⟨v29, hv29, hf⟩ := xb_s hf
      refine xV_same (rest := [.int v21]) 32 rfl dX10_gainOf_29 rfl (C10_on X.1.2.1 hv29) m10_on v10_on k10_90 rfl rfl rfl rfl rfl (Nat.le_of_ble_eq_true rfl) (Nat.le_of_ble_eq_true rfl) (Nat.le_of_ble_eq_true rfl) ⟨Nat.le_refl _, Nat.le_refl _⟩ ?_
      show xV (j10_gainOf) X 0 0 (hM c_thrown c_told c_read c_many c_eights c_gains c_notes c_seen c_turns c_drawn c_state c_tape c_taped c_size c_from c_next c_token c_value c_fault c_number c_fives c_isLeft c_wentTimes c_goes c_isLeftLaid c_game c_rows c_columns c_isFound c_bestValue c_bestBelow c_bestShare c_share c_matrix c_system c_shares c_allShares) 32 [(0, .ref 0), (1, .int x1), (2, .int x2), (3, .int x3), (4, .int x4)] [.int v29, .int v21]
      refine xV_isub 33 rfl dX10_gainOf_32 ?_
      refine xV_istore (L' := [(5, .int (v21 - v29)), (0, .ref 0), (1, .int x1), (2, .int x2), (3, .int x3), (4, .int x4)]) 35 rfl dX10_gainOf_33 (xlt rfl) rfl ?_
      refine xV_iload 37 rfl dX10_gainOf_35 0 rfl ?_
      refine xV_if_gt (tgt := 56) 40 rfl dX10_gainOf_37 (by decide) (fun h37 => ?_) (fun h37 => ?_)
      · have hf := xif_t hf h37
        refine xV_iconst 57 rfl dX10_gainOf_56 xk_i1 ?_
        refine xV_goto (tgt := 81) dX10_gainOf_57 (by decide) ?_
        refine xV_sub [1, 2, 3, 4, 5] rfl ?_
        exact T10_gainOf_b81 hX (fun {_ _ _ _} hq => ih hq) hf
      · have hf := xif_f hf h37
        refine xV_iload 42 rfl dX10_gainOf_40 0 rfl ?_
        refine xV_if_ne (tgt := 60) 45 rfl dX10_gainOf_42 (by decide) (fun h42 => ?_) (fun h42 => ?_)
        · have hf := xif_f hf h42
          refine xV_sub [1, 2, 3, 4, 5, 0] rfl ?_
          exact T10_gainOf_b60 hX (fun {_ _ _ _} hq => ih hq) hf
        · have hf := xif_t hf h42
          refine xV_aload_n 46 rfl dX10_gainOf_45 rfl 1 rfl ?_
          refine xV_get (v := .ref 1) 49 rfl dX10_gainOf_46 f10_17 rfl rfl ?_
          refine xV_bipush 51 rfl dX10_gainOf_49 xk_b7 ?_
          refine xV_iaload 52 rfl dX10_gainOf_51 rfl xk_in7_56 xk_j7 ?_
          refine xV_iconst 53 rfl dX10_gainOf_52 xk_i1 ?_
          refine xV_icmp_ne (tgt := 60) 56 rfl dX10_gainOf_53 (by decide) (fun h53 => ?_) (fun h53 => ?_)
          · have hf := xif_f hf h53
            refine xV_sub [1, 2, 3, 4, 5, 0] rfl ?_
            exact T10_gainOf_b60 hX (fun {_ _ _ _} hq => ih hq) hf
          · have hf := xif_t hf h53
            refine xV_iconst 57 rfl dX10_gainOf_56 xk_i1 ?_
            refine xV_goto (tgt := 81) dX10_gainOf_57 (by decide) ?_
            refine xV_sub [1, 2, 3, 4, 5] rfl ?_
            exact T10_gainOf_b81 hX (fun {_ _ _ _} hq => ih hq) hf
def F10_gainOf (z : Nat) (x1 : Int32) (x2 : Int32) (c_told : (Nat → Int32)) (c_eights : (Nat → Int32)) : Option (Int32) :=
  F10_gainOf_b5 z z x1 x2 (0 : Int32) (0 : Int32) c_told c_eights
theorem T10_gainOf {X : xX} {z : Nat} {x1 : Int32} {x2 : Int32} {c_told : (Nat → Int32)} {c_eights : (Nat → Int32)} {c_thrown : Int32} {c_read : (Nat → Int32)} {c_many : (Nat → Int32)} {c_gains : (Nat → Int32)} {c_notes : (Nat → Int32)} {c_seen : (Nat → Int32)} {c_turns : (Nat → Int32)} {c_drawn : (Nat → Int32)} {c_state : Int32} {c_tape : (Nat → Int32)} {c_taped : Int32} {c_size : Int32} {c_from : Int32} {c_next : Int32} {c_token : Int32} {c_value : Int32} {c_fault : Int32} {c_number : Int32} {c_fives : (Nat → Int32)} {c_isLeft : (Nat → Int32)} {c_wentTimes : Int32} {c_goes : (Nat → Int32)} {c_isLeftLaid : Int32} {c_game : (Nat → Int32)} {c_rows : Int32} {c_columns : Int32} {c_isFound : Int32} {c_bestValue : Int64} {c_bestBelow : Int64} {c_bestShare : (Nat → Int64)} {c_share : (Nat → Int64)} {c_matrix : (Nat → Int64)} {c_system : (Nat → Int64)} {c_shares : (Nat → Int32)} {c_allShares : Int32} {v : Int32} (hX : xIs (j10_gainOf) X ((some .int)) (some (.int v)) (hM c_thrown c_told c_read c_many c_eights c_gains c_notes c_seen c_turns c_drawn c_state c_tape c_taped c_size c_from c_next c_token c_value c_fault c_number c_fives c_isLeft c_wentTimes c_goes c_isLeftLaid c_game c_rows c_columns c_isFound c_bestValue c_bestBelow c_bestShare c_share c_matrix c_system c_shares c_allShares)) (hf : F10_gainOf z x1 x2 c_told c_eights = some v) : xV (j10_gainOf) X 0 0 (hM c_thrown c_told c_read c_many c_eights c_gains c_notes c_seen c_turns c_drawn c_state c_tape c_taped c_size c_from c_next c_token c_value c_fault c_number c_fives c_isLeft c_wentTimes c_goes c_isLeftLaid c_game c_rows c_columns c_isFound c_bestValue c_bestBelow c_bestShare c_share c_matrix c_system c_shares c_allShares) 0 [(0, .ref 0), (1, .int x1), (2, .int x2)] [] := by
  unfold F10_gainOf at hf
  refine xV_iconst 1 rfl dX10_gainOf_0 xk_i0 ?_
  refine xV_istore_n (L' := [(3, .int (0 : Int32)), (0, .ref 0), (1, .int x1), (2, .int x2)]) 2 rfl dX10_gainOf_1 rfl (xlt rfl) rfl ?_
  refine xV_iconst 3 rfl dX10_gainOf_2 xk_i0 ?_
  refine xV_istore (L' := [(4, .int (0 : Int32)), (3, .int (0 : Int32)), (0, .ref 0), (1, .int x1), (2, .int x2)]) 5 rfl dX10_gainOf_3 (xlt rfl) rfl ?_
  refine xV_sub [2, 3, 4, 1, 0] rfl ?_
  exact T10_gainOf_b5 hX _ hf
theorem C10_gainOf (l : Launch) {z : Nat} {x1 : Int32} {x2 : Int32} {c_told : (Nat → Int32)} {c_eights : (Nat → Int32)} {c_thrown : Int32} {c_read : (Nat → Int32)} {c_many : (Nat → Int32)} {c_gains : (Nat → Int32)} {c_notes : (Nat → Int32)} {c_seen : (Nat → Int32)} {c_turns : (Nat → Int32)} {c_drawn : (Nat → Int32)} {c_state : Int32} {c_tape : (Nat → Int32)} {c_taped : Int32} {c_size : Int32} {c_from : Int32} {c_next : Int32} {c_token : Int32} {c_value : Int32} {c_fault : Int32} {c_number : Int32} {c_fives : (Nat → Int32)} {c_isLeft : (Nat → Int32)} {c_wentTimes : Int32} {c_goes : (Nat → Int32)} {c_isLeftLaid : Int32} {c_game : (Nat → Int32)} {c_rows : Int32} {c_columns : Int32} {c_isFound : Int32} {c_bestValue : Int64} {c_bestBelow : Int64} {c_bestShare : (Nat → Int64)} {c_share : (Nat → Int64)} {c_matrix : (Nat → Int64)} {c_system : (Nat → Int64)} {c_shares : (Nat → Int32)} {c_allShares : Int32} {v : Int32} (hf : F10_gainOf z x1 x2 c_told c_eights = some v) : xCt l yX10_gainOf ((some .int)) j10_gainOf [.ref 0, .int x1, .int x2] (hM c_thrown c_told c_read c_many c_eights c_gains c_notes c_seen c_turns c_drawn c_state c_tape c_taped c_size c_from c_next c_token c_value c_fault c_number c_fives c_isLeft c_wentTimes c_goes c_isLeftLaid c_game c_rows c_columns c_isFound c_bestValue c_bestBelow c_bestShare c_share c_matrix c_system c_shares c_allShares) (some (.int v)) (hM c_thrown c_told c_read c_many c_eights c_gains c_notes c_seen c_turns c_drawn c_state c_tape c_taped c_size c_from c_next c_token c_value c_fault c_number c_fives c_isLeft c_wentTimes c_goes c_isLeftLaid c_game c_rows c_columns c_isFound c_bestValue c_bestBelow c_bestShare c_share c_matrix c_system c_shares c_allShares) := xCt_of (by decide) rfl (Nat.le_of_ble_eq_true rfl) (fun _ hX => T10_gainOf hX hf)
theorem m10_gainOf : xMd yX10_gainOf RX10 ((some .int)) j10_gainOf 2 := ⟨List.mem_of_getElem? (i := 156) (by decide +kernel), List.mem_of_getElem? (i := 5) (by decide +kernel), rfl, by decide +kernel⟩
theorem v10_gainOf : xMv yX10_gainOf RX10 := ⟨List.mem_of_getElem? (i := 154) (by decide +kernel), List.mem_of_getElem? (i := 155) (by decide +kernel)⟩
theorem xk_in0_2 : vp_in (0 : Int32) 2 := xin_ok (by decide)
theorem xk_i5 : Int32.ofInt (5) = (5 : Int32) := by decide
theorem xk_in1_2 : vp_in (1 : Int32) 2 := xin_ok (by decide)
theorem xk_j1 : (1 : Int32).toNatClampNeg = 1 := by decide
theorem f10_98 : xFl RX10 98 10 24 := ⟨_, rfl, by decide, List.mem_of_getElem? (i := 148) (by decide +kernel)⟩
theorem nf10_24 : ∀ q : vw_C, vwCl[10]? = some q → (q.2.1 24).2.2.2 = false := fun q e => by cases e; rfl
theorem f10_30 : xFl RX10 30 10 5 := ⟨_, rfl, by decide, List.mem_of_getElem? (i := 126) (by decide +kernel)⟩
theorem k10_102 : Cond.methodLink RX10 102 yX10_gainOf ∈ wsL_law0 := List.mem_of_getElem? (i := 153) (by decide +kernel)
theorem dX10_lays_0 : decode cX10_lays 0 = .ok (.aload_n 0, 1) := by decide +kernel
theorem dX10_lays_1 : decode cX10_lays 1 = .ok (.iconst 0, 1) := by decide +kernel
theorem dX10_lays_2 : decode cX10_lays 2 = .ok (.putfield 98, 3) := by decide +kernel
theorem dX10_lays_5 : decode cX10_lays 5 = .ok (.iconst 0, 1) := by decide +kernel
theorem dX10_lays_6 : decode cX10_lays 6 = .ok (.istore_n 1, 1) := by decide +kernel
theorem dX10_lays_7 : decode cX10_lays 7 = .ok (.iload_n 1, 1) := by decide +kernel
theorem dX10_lays_8 : decode cX10_lays 8 = .ok (.iconst 2, 1) := by decide +kernel
theorem dX10_lays_9 : decode cX10_lays 9 = .ok (.if_icmp .ge 31, 3) := by decide +kernel
theorem dX10_lays_12 : decode cX10_lays 12 = .ok (.aload_n 0, 1) := by decide +kernel
theorem dX10_lays_13 : decode cX10_lays 13 = .ok (.getfield 24, 3) := by decide +kernel
theorem dX10_lays_16 : decode cX10_lays 16 = .ok (.iload_n 1, 1) := by decide +kernel
theorem dX10_lays_17 : decode cX10_lays 17 = .ok (.iconst 0, 1) := by decide +kernel
theorem dX10_lays_18 : decode cX10_lays 18 = .ok (.iastore, 1) := by decide +kernel
theorem dX10_lays_19 : decode cX10_lays 19 = .ok (.aload_n 0, 1) := by decide +kernel
theorem dX10_lays_20 : decode cX10_lays 20 = .ok (.iload_n 1, 1) := by decide +kernel
theorem dX10_lays_21 : decode cX10_lays 21 = .ok (.iconst 0, 1) := by decide +kernel
theorem dX10_lays_22 : decode cX10_lays 22 = .ok (.aload_n 0, 1) := by decide +kernel
theorem dX10_lays_23 : decode cX10_lays 23 = .ok (.getfield 17, 3) := by decide +kernel
theorem dX10_lays_26 : decode cX10_lays 26 = .ok (.iconst 5, 1) := by decide +kernel
theorem dX10_lays_27 : decode cX10_lays 27 = .ok (.iload_n 1, 1) := by decide +kernel
theorem dX10_lays_28 : decode cX10_lays 28 = .ok (.iadd, 1) := by decide +kernel
theorem dX10_lays_29 : decode cX10_lays 29 = .ok (.iaload, 1) := by decide +kernel
theorem dX10_lays_30 : decode cX10_lays 30 = .ok (.iconst 0, 1) := by decide +kernel
theorem dX10_lays_31 : decode cX10_lays 31 = .ok (.invokevirtual 82, 3) := by decide +kernel
theorem dX10_lays_34 : decode cX10_lays 34 = .ok (.iinc 1 1, 3) := by decide +kernel
theorem dX10_lays_37 : decode cX10_lays 37 = .ok (.goto (-30), 3) := by decide +kernel
theorem dX10_lays_40 : decode cX10_lays 40 = .ok (.iconst 0, 1) := by decide +kernel
theorem dX10_lays_41 : decode cX10_lays 41 = .ok (.istore_n 1, 1) := by decide +kernel
theorem dX10_lays_42 : decode cX10_lays 42 = .ok (.iload_n 1, 1) := by decide +kernel
theorem dX10_lays_43 : decode cX10_lays 43 = .ok (.aload_n 0, 1) := by decide +kernel
theorem dX10_lays_44 : decode cX10_lays 44 = .ok (.getfield 24, 3) := by decide +kernel
theorem dX10_lays_47 : decode cX10_lays 47 = .ok (.iconst 0, 1) := by decide +kernel
theorem dX10_lays_48 : decode cX10_lays 48 = .ok (.iaload, 1) := by decide +kernel
theorem dX10_lays_49 : decode cX10_lays 49 = .ok (.if_icmp .ge 45, 3) := by decide +kernel
theorem dX10_lays_52 : decode cX10_lays 52 = .ok (.iconst 0, 1) := by decide +kernel
theorem dX10_lays_53 : decode cX10_lays 53 = .ok (.istore_n 2, 1) := by decide +kernel
theorem dX10_lays_54 : decode cX10_lays 54 = .ok (.iload_n 2, 1) := by decide +kernel
theorem dX10_lays_55 : decode cX10_lays 55 = .ok (.aload_n 0, 1) := by decide +kernel
theorem dX10_lays_56 : decode cX10_lays 56 = .ok (.getfield 24, 3) := by decide +kernel
theorem dX10_lays_59 : decode cX10_lays 59 = .ok (.iconst 1, 1) := by decide +kernel
theorem dX10_lays_60 : decode cX10_lays 60 = .ok (.iaload, 1) := by decide +kernel
theorem dX10_lays_61 : decode cX10_lays 61 = .ok (.if_icmp .ge 27, 3) := by decide +kernel
theorem dX10_lays_64 : decode cX10_lays 64 = .ok (.aload_n 0, 1) := by decide +kernel
theorem dX10_lays_65 : decode cX10_lays 65 = .ok (.getfield 30, 3) := by decide +kernel
theorem dX10_lays_68 : decode cX10_lays 68 = .ok (.sipush 128, 3) := by decide +kernel
theorem dX10_lays_71 : decode cX10_lays 71 = .ok (.iload_n 1, 1) := by decide +kernel
theorem dX10_lays_72 : decode cX10_lays 72 = .ok (.imul, 1) := by decide +kernel
theorem dX10_lays_73 : decode cX10_lays 73 = .ok (.iload_n 2, 1) := by decide +kernel
theorem dX10_lays_74 : decode cX10_lays 74 = .ok (.iadd, 1) := by decide +kernel
theorem dX10_lays_75 : decode cX10_lays 75 = .ok (.aload_n 0, 1) := by decide +kernel
theorem dX10_lays_76 : decode cX10_lays 76 = .ok (.iload_n 1, 1) := by decide +kernel
theorem dX10_lays_77 : decode cX10_lays 77 = .ok (.iload_n 2, 1) := by decide +kernel
theorem dX10_lays_78 : decode cX10_lays 78 = .ok (.invokevirtual 102, 3) := by decide +kernel
theorem dX10_lays_81 : decode cX10_lays 81 = .ok (.iastore, 1) := by decide +kernel
theorem dX10_lays_82 : decode cX10_lays 82 = .ok (.iinc 2 1, 3) := by decide +kernel
theorem dX10_lays_85 : decode cX10_lays 85 = .ok (.goto (-31), 3) := by decide +kernel
theorem dX10_lays_88 : decode cX10_lays 88 = .ok (.iinc 1 1, 3) := by decide +kernel
theorem dX10_lays_91 : decode cX10_lays 91 = .ok (.goto (-49), 3) := by decide +kernel
theorem dX10_lays_94 : decode cX10_lays 94 = .ok (.return_, 1) := by decide +kernel
abbrev j10_lays : xJ := (cX10_lays, 3, RX10, 9, 0, 0)
def F10_lays_b88 (z : Nat) (x1 : Int32) (c_told : (Nat → Int32)) (c_many : (Nat → Int32)) (c_eights : (Nat → Int32)) (c_gains : (Nat → Int32)) (c_isLeftLaid : Int32) (k42 : Int32 → (Nat → Int32) → (Nat → Int32) → (Nat → Int32) → (Nat → Int32) → Int32 → Option ((Nat → Int32) × (Nat → Int32) × (Nat → Int32) × Int32)) : Option ((Nat → Int32) × (Nat → Int32) × (Nat → Int32) × Int32) :=
  k42 (x1 + (1 : Int32)) c_told c_many c_eights c_gains c_isLeftLaid
theorem T10_lays_b88 {X : xX} {c_thrown : Int32} {c_read : (Nat → Int32)} {c_notes : (Nat → Int32)} {c_seen : (Nat → Int32)} {c_turns : (Nat → Int32)} {c_drawn : (Nat → Int32)} {c_state : Int32} {c_tape : (Nat → Int32)} {c_taped : Int32} {c_size : Int32} {c_from : Int32} {c_next : Int32} {c_token : Int32} {c_value : Int32} {c_fault : Int32} {c_number : Int32} {c_fives : (Nat → Int32)} {c_isLeft : (Nat → Int32)} {c_wentTimes : Int32} {c_goes : (Nat → Int32)} {c_game : (Nat → Int32)} {c_rows : Int32} {c_columns : Int32} {c_isFound : Int32} {c_bestValue : Int64} {c_bestBelow : Int64} {c_bestShare : (Nat → Int64)} {c_share : (Nat → Int64)} {c_matrix : (Nat → Int64)} {c_system : (Nat → Int64)} {c_shares : (Nat → Int32)} {c_allShares : Int32} {x1 : Int32} {c_told : (Nat → Int32)} {c_many : (Nat → Int32)} {c_eights : (Nat → Int32)} {c_gains : (Nat → Int32)} {c_isLeftLaid : Int32} {z : Nat} {v : (Nat → Int32) × (Nat → Int32) × (Nat → Int32) × Int32} {k42 : Int32 → (Nat → Int32) → (Nat → Int32) → (Nat → Int32) → (Nat → Int32) → Int32 → Option ((Nat → Int32) × (Nat → Int32) × (Nat → Int32) × Int32)} (hX : xIs (j10_lays) X none none (hM c_thrown c_told c_read v.1 v.2.1 v.2.2.1 c_notes c_seen c_turns c_drawn c_state c_tape c_taped c_size c_from c_next c_token c_value c_fault c_number c_fives c_isLeft c_wentTimes c_goes v.2.2.2 c_game c_rows c_columns c_isFound c_bestValue c_bestBelow c_bestShare c_share c_matrix c_system c_shares c_allShares)) (hk42 : ∀ {x1 : Int32} {c_many : (Nat → Int32)} {c_eights : (Nat → Int32)} {c_gains : (Nat → Int32)} {c_isLeftLaid : Int32}, k42 x1 c_told c_many c_eights c_gains c_isLeftLaid = some v → xV (j10_lays) X 0 0 (hM c_thrown c_told c_read c_many c_eights c_gains c_notes c_seen c_turns c_drawn c_state c_tape c_taped c_size c_from c_next c_token c_value c_fault c_number c_fives c_isLeft c_wentTimes c_goes c_isLeftLaid c_game c_rows c_columns c_isFound c_bestValue c_bestBelow c_bestShare c_share c_matrix c_system c_shares c_allShares) 42 [(0, .ref 0), (1, .int x1)] []) (hf : F10_lays_b88 z x1 c_told c_many c_eights c_gains c_isLeftLaid k42 = some v) : xV (j10_lays) X 0 0 (hM c_thrown c_told c_read c_many c_eights c_gains c_notes c_seen c_turns c_drawn c_state c_tape c_taped c_size c_from c_next c_token c_value c_fault c_number c_fives c_isLeft c_wentTimes c_goes c_isLeftLaid c_game c_rows c_columns c_isFound c_bestValue c_bestBelow c_bestShare c_share c_matrix c_system c_shares c_allShares) 88 [(0, .ref 0), (1, .int x1)] [] := by
  unfold F10_lays_b88 at hf
  refine xV_iinc (L' := [(1, .int (x1 + (1 : Int32))), (0, .ref 0)]) 91 rfl dX10_lays_88 1 rfl (xk_inc xk_i1) (xlt rfl) rfl ?_
  refine xV_goto (tgt := 42) dX10_lays_91 (by decide) ?_
  refine xV_sub [1, 0] rfl ?_
  exact hk42 hf
def F10_lays_b54 (z : Nat) (w : Nat) (x1 : Int32) (x2 : Int32) (c_told : (Nat → Int32)) (c_many : (Nat → Int32)) (c_eights : (Nat → Int32)) (c_gains : (Nat → Int32)) (c_isLeftLaid : Int32) (k42 : Int32 → (Nat → Int32) → (Nat → Int32) → (Nat → Int32) → (Nat → Int32) → Int32 → Option ((Nat → Int32) × (Nat → Int32) × (Nat → Int32) × Int32)) : Option ((Nat → Int32) × (Nat → Int32) × (Nat → Int32) × Int32) := match w with
  | 0 => none
  | w + 1 => if (c_many 1) ≤ x2 then (F10_lays_b88 z x1 c_told c_many c_eights c_gains c_isLeftLaid k42) else ((F10_gainOf z x1 x2 c_told c_eights).bind (fun v78 => xg (xin (((128 : Int32) * x1) + x2) 16384) (F10_lays_b54 z w x1 (x2 + (1 : Int32)) c_told c_many c_eights (upd c_gains (xn (((128 : Int32) * x1) + x2)) v78) c_isLeftLaid k42)))
theorem T10_lays_b54 {X : xX} {c_thrown : Int32} {c_told : (Nat → Int32)} {c_read : (Nat → Int32)} {c_notes : (Nat → Int32)} {c_seen : (Nat → Int32)} {c_turns : (Nat → Int32)} {c_drawn : (Nat → Int32)} {c_state : Int32} {c_tape : (Nat → Int32)} {c_taped : Int32} {c_size : Int32} {c_from : Int32} {c_next : Int32} {c_token : Int32} {c_value : Int32} {c_fault : Int32} {c_number : Int32} {c_fives : (Nat → Int32)} {c_isLeft : (Nat → Int32)} {c_wentTimes : Int32} {c_goes : (Nat → Int32)} {c_game : (Nat → Int32)} {c_rows : Int32} {c_columns : Int32} {c_isFound : Int32} {c_bestValue : Int64} {c_bestBelow : Int64} {c_bestShare : (Nat → Int64)} {c_share : (Nat → Int64)} {c_matrix : (Nat → Int64)} {c_system : (Nat → Int64)} {c_shares : (Nat → Int32)} {c_allShares : Int32} {z : Nat} {v : (Nat → Int32) × (Nat → Int32) × (Nat → Int32) × Int32} {k42 : Int32 → (Nat → Int32) → (Nat → Int32) → (Nat → Int32) → (Nat → Int32) → Int32 → Option ((Nat → Int32) × (Nat → Int32) × (Nat → Int32) × Int32)} (hX : xIs (j10_lays) X none none (hM c_thrown c_told c_read v.1 v.2.1 v.2.2.1 c_notes c_seen c_turns c_drawn c_state c_tape c_taped c_size c_from c_next c_token c_value c_fault c_number c_fives c_isLeft c_wentTimes c_goes v.2.2.2 c_game c_rows c_columns c_isFound c_bestValue c_bestBelow c_bestShare c_share c_matrix c_system c_shares c_allShares)) (hk42 : ∀ {x1 : Int32} {c_many : (Nat → Int32)} {c_eights : (Nat → Int32)} {c_gains : (Nat → Int32)} {c_isLeftLaid : Int32}, k42 x1 c_told c_many c_eights c_gains c_isLeftLaid = some v → xV (j10_lays) X 0 0 (hM c_thrown c_told c_read c_many c_eights c_gains c_notes c_seen c_turns c_drawn c_state c_tape c_taped c_size c_from c_next c_token c_value c_fault c_number c_fives c_isLeft c_wentTimes c_goes c_isLeftLaid c_game c_rows c_columns c_isFound c_bestValue c_bestBelow c_bestShare c_share c_matrix c_system c_shares c_allShares) 42 [(0, .ref 0), (1, .int x1)] []) : ∀ (w : Nat) {x1 : Int32} {x2 : Int32} {c_many : (Nat → Int32)} {c_eights : (Nat → Int32)} {c_gains : (Nat → Int32)} {c_isLeftLaid : Int32}, F10_lays_b54 z w x1 x2 c_told c_many c_eights c_gains c_isLeftLaid k42 = some v → xV (j10_lays) X 0 0 (hM c_thrown c_told c_read c_many c_eights c_gains c_notes c_seen c_turns c_drawn c_state c_tape c_taped c_size c_from c_next c_token c_value c_fault c_number c_fives c_isLeft c_wentTimes c_goes c_isLeftLaid c_game c_rows c_columns c_isFound c_bestValue c_bestBelow c_bestShare c_share c_matrix c_system c_shares c_allShares) 54 [(0, .ref 0), (1, .int x1), (2, .int x2)] [] := by
  intro w
  induction w with
  | zero => intro x1 x2 c_many c_eights c_gains c_isLeftLaid hf; cases hf
  | succ w ih =>
    intro x1 x2 c_many c_eights c_gains c_isLeftLaid hf
    unfold F10_lays_b54 at hf
    refine xV_iload_n 55 rfl dX10_lays_54 rfl 2 rfl ?_
    refine xV_aload_n 56 rfl dX10_lays_55 rfl 0 rfl ?_
    refine xV_get (v := .ref 3) 59 rfl dX10_lays_56 f10_24 rfl rfl ?_
    refine xV_iconst 60 rfl dX10_lays_59 xk_i1 ?_
    refine xV_iaload 61 rfl dX10_lays_60 rfl xk_in1_2 xk_j1 ?_
    refine xV_icmp_ge (tgt := 88) 64 rfl dX10_lays_61 (by decide) (fun h61 => ?_) (fun h61 => ?_)
    · have hf := xif_t hf h61
      refine xV_sub [0, 1] rfl ?_
      exact T10_lays_b88 hX hk42 hf
    · have hf := xif_f hf h61
      refine xV_aload_n 65 rfl dX10_lays_64 rfl 0 rfl ?_
      refine xV_get (v := .ref 5) 68 rfl dX10_lays_65 f10_30 rfl rfl ?_
      refine xV_sipush 71 rfl dX10_lays_68 xk_s128 ?_
      refine xV_iload_n 72 rfl dX10_lays_71 rfl 1 rfl ?_
      refine xV_imul 73 rfl dX10_lays_72 ?_
      refine xV_iload_n 74 rfl dX10_lays_73 rfl 2 rfl ?_
      refine xV_iadd 75 rfl dX10_lays_74 ?_
      refine xV_aload_n 76 rfl dX10_lays_75 rfl 0 rfl ?_
      refine xV_iload_n 77 rfl dX10_lays_76 rfl 1 rfl ?_
      refine xV_iload_n 78 rfl dX10_lays_77 rfl 2 rfl ?_
      obtain ⟨v78, hv78, hf⟩ := xb_s hf
      refine xV_same (rest := [.int (((128 : Int32) * x1) + x2), .ref 5]) 81 rfl dX10_lays_78 rfl (C10_gainOf X.1.2.1 hv78) m10_gainOf v10_gainOf k10_102 rfl rfl rfl rfl rfl (Nat.le_of_ble_eq_true rfl) (Nat.le_of_ble_eq_true rfl) (Nat.le_of_ble_eq_true rfl) ⟨Nat.le_refl _, Nat.le_refl _⟩ ?_
      show xV (j10_lays) X 0 0 (hM c_thrown c_told c_read c_many c_eights c_gains c_notes c_seen c_turns c_drawn c_state c_tape c_taped c_size c_from c_next c_token c_value c_fault c_number c_fives c_isLeft c_wentTimes c_goes c_isLeftLaid c_game c_rows c_columns c_isFound c_bestValue c_bestBelow c_bestShare c_share c_matrix c_system c_shares c_allShares) 81 [(0, .ref 0), (1, .int x1), (2, .int x2)] [.int v78, .int (((128 : Int32) * x1) + x2), .ref 5]
      obtain ⟨hg81, hf⟩ := xg_s hf
      refine xV_iastore (h' := (hM c_thrown c_told c_read c_many c_eights (upd c_gains (xn (((128 : Int32) * x1) + x2)) v78) c_notes c_seen c_turns c_drawn c_state c_tape c_taped c_size c_from c_next c_token c_value c_fault c_number c_fives c_isLeft c_wentTimes c_goes c_isLeftLaid c_game c_rows c_columns c_isFound c_bestValue c_bestBelow c_bestShare c_share c_matrix c_system c_shares c_allShares)) 82 rfl dX10_lays_81 rfl (xin_ok hg81) rfl rfl ?_
      refine xV_iinc (L' := [(2, .int (x2 + (1 : Int32))), (0, .ref 0), (1, .int x1)]) 85 rfl dX10_lays_82 2 rfl (xk_inc xk_i1) (xlt rfl) rfl ?_
      refine xV_goto (tgt := 54) dX10_lays_85 (by decide) ?_
      refine xV_sub [1, 2, 0] rfl ?_
      exact ih hf
def F10_lays_b42 (z : Nat) (w : Nat) (x1 : Int32) (c_told : (Nat → Int32)) (c_many : (Nat → Int32)) (c_eights : (Nat → Int32)) (c_gains : (Nat → Int32)) (c_isLeftLaid : Int32) : Option ((Nat → Int32) × (Nat → Int32) × (Nat → Int32) × Int32) := match w with
  | 0 => none
  | w + 1 => if (c_many 0) ≤ x1 then (some (c_many, c_eights, c_gains, c_isLeftLaid)) else (F10_lays_b54 z z x1 (0 : Int32) c_told c_many c_eights c_gains c_isLeftLaid (fun q0 q1 q2 q3 q4 q5 => F10_lays_b42 z w q0 q1 q2 q3 q4 q5))
theorem T10_lays_b42 {X : xX} {c_thrown : Int32} {c_told : (Nat → Int32)} {c_read : (Nat → Int32)} {c_notes : (Nat → Int32)} {c_seen : (Nat → Int32)} {c_turns : (Nat → Int32)} {c_drawn : (Nat → Int32)} {c_state : Int32} {c_tape : (Nat → Int32)} {c_taped : Int32} {c_size : Int32} {c_from : Int32} {c_next : Int32} {c_token : Int32} {c_value : Int32} {c_fault : Int32} {c_number : Int32} {c_fives : (Nat → Int32)} {c_isLeft : (Nat → Int32)} {c_wentTimes : Int32} {c_goes : (Nat → Int32)} {c_game : (Nat → Int32)} {c_rows : Int32} {c_columns : Int32} {c_isFound : Int32} {c_bestValue : Int64} {c_bestBelow : Int64} {c_bestShare : (Nat → Int64)} {c_share : (Nat → Int64)} {c_matrix : (Nat → Int64)} {c_system : (Nat → Int64)} {c_shares : (Nat → Int32)} {c_allShares : Int32} {z : Nat} {v : (Nat → Int32) × (Nat → Int32) × (Nat → Int32) × Int32} (hX : xIs (j10_lays) X none none (hM c_thrown c_told c_read v.1 v.2.1 v.2.2.1 c_notes c_seen c_turns c_drawn c_state c_tape c_taped c_size c_from c_next c_token c_value c_fault c_number c_fives c_isLeft c_wentTimes c_goes v.2.2.2 c_game c_rows c_columns c_isFound c_bestValue c_bestBelow c_bestShare c_share c_matrix c_system c_shares c_allShares)) : ∀ (w : Nat) {x1 : Int32} {c_many : (Nat → Int32)} {c_eights : (Nat → Int32)} {c_gains : (Nat → Int32)} {c_isLeftLaid : Int32}, F10_lays_b42 z w x1 c_told c_many c_eights c_gains c_isLeftLaid = some v → xV (j10_lays) X 0 0 (hM c_thrown c_told c_read c_many c_eights c_gains c_notes c_seen c_turns c_drawn c_state c_tape c_taped c_size c_from c_next c_token c_value c_fault c_number c_fives c_isLeft c_wentTimes c_goes c_isLeftLaid c_game c_rows c_columns c_isFound c_bestValue c_bestBelow c_bestShare c_share c_matrix c_system c_shares c_allShares) 42 [(0, .ref 0), (1, .int x1)] [] := by
  intro w
  induction w with
  | zero => intro x1 c_many c_eights c_gains c_isLeftLaid hf; cases hf
  | succ w ih =>
    intro x1 c_many c_eights c_gains c_isLeftLaid hf
    unfold F10_lays_b42 at hf
    refine xV_iload_n 43 rfl dX10_lays_42 rfl 1 rfl ?_
    refine xV_aload_n 44 rfl dX10_lays_43 rfl 0 rfl ?_
    refine xV_get (v := .ref 3) 47 rfl dX10_lays_44 f10_24 rfl rfl ?_
    refine xV_iconst 48 rfl dX10_lays_47 xk_i0 ?_
    refine xV_iaload 49 rfl dX10_lays_48 rfl xk_in0_2 xk_j0 ?_
    refine xV_icmp_ge (tgt := 94) 52 rfl dX10_lays_49 (by decide) (fun h49 => ?_) (fun h49 => ?_)
    · have hf := xif_t hf h49
      obtain rfl := Option.some.inj hf
      exact xV_vret hX dX10_lays_94 (Nat.zero_le _) (Nat.zero_le _)
    · have hf := xif_f hf h49
      refine xV_iconst 53 rfl dX10_lays_52 xk_i0 ?_
      refine xV_istore_n (L' := [(2, .int (0 : Int32)), (0, .ref 0), (1, .int x1)]) 54 rfl dX10_lays_53 rfl (xlt rfl) rfl ?_
      refine xV_sub [1, 2, 0] rfl ?_
      exact T10_lays_b54 hX (fun {_ _ _ _ _} hq => ih hq) _ hf
def F10_lays_b40 (z : Nat) (c_told : (Nat → Int32)) (c_many : (Nat → Int32)) (c_eights : (Nat → Int32)) (c_gains : (Nat → Int32)) (c_isLeftLaid : Int32) : Option ((Nat → Int32) × (Nat → Int32) × (Nat → Int32) × Int32) :=
  F10_lays_b42 z z (0 : Int32) c_told c_many c_eights c_gains c_isLeftLaid
theorem T10_lays_b40 {X : xX} {c_thrown : Int32} {c_read : (Nat → Int32)} {c_notes : (Nat → Int32)} {c_seen : (Nat → Int32)} {c_turns : (Nat → Int32)} {c_drawn : (Nat → Int32)} {c_state : Int32} {c_tape : (Nat → Int32)} {c_taped : Int32} {c_size : Int32} {c_from : Int32} {c_next : Int32} {c_token : Int32} {c_value : Int32} {c_fault : Int32} {c_number : Int32} {c_fives : (Nat → Int32)} {c_isLeft : (Nat → Int32)} {c_wentTimes : Int32} {c_goes : (Nat → Int32)} {c_game : (Nat → Int32)} {c_rows : Int32} {c_columns : Int32} {c_isFound : Int32} {c_bestValue : Int64} {c_bestBelow : Int64} {c_bestShare : (Nat → Int64)} {c_share : (Nat → Int64)} {c_matrix : (Nat → Int64)} {c_system : (Nat → Int64)} {c_shares : (Nat → Int32)} {c_allShares : Int32} {c_told : (Nat → Int32)} {c_many : (Nat → Int32)} {c_eights : (Nat → Int32)} {c_gains : (Nat → Int32)} {c_isLeftLaid : Int32} {z : Nat} {v : (Nat → Int32) × (Nat → Int32) × (Nat → Int32) × Int32} (hX : xIs (j10_lays) X none none (hM c_thrown c_told c_read v.1 v.2.1 v.2.2.1 c_notes c_seen c_turns c_drawn c_state c_tape c_taped c_size c_from c_next c_token c_value c_fault c_number c_fives c_isLeft c_wentTimes c_goes v.2.2.2 c_game c_rows c_columns c_isFound c_bestValue c_bestBelow c_bestShare c_share c_matrix c_system c_shares c_allShares)) (hf : F10_lays_b40 z c_told c_many c_eights c_gains c_isLeftLaid = some v) : xV (j10_lays) X 0 0 (hM c_thrown c_told c_read c_many c_eights c_gains c_notes c_seen c_turns c_drawn c_state c_tape c_taped c_size c_from c_next c_token c_value c_fault c_number c_fives c_isLeft c_wentTimes c_goes c_isLeftLaid c_game c_rows c_columns c_isFound c_bestValue c_bestBelow c_bestShare c_share c_matrix c_system c_shares c_allShares) 40 [(0, .ref 0)] [] := by
  unfold F10_lays_b40 at hf
  refine xV_iconst 41 rfl dX10_lays_40 xk_i0 ?_
  refine xV_istore_n (L' := [(1, .int (0 : Int32)), (0, .ref 0)]) 42 rfl dX10_lays_41 rfl (xlt rfl) rfl ?_
  refine xV_sub [1, 0] rfl ?_
  exact T10_lays_b42 hX _ hf
def F10_lays_b7 (z : Nat) (w : Nat) (x1 : Int32) (c_told : (Nat → Int32)) (c_many : (Nat → Int32)) (c_eights : (Nat → Int32)) (c_gains : (Nat → Int32)) (c_isLeftLaid : Int32) : Option ((Nat → Int32) × (Nat → Int32) × (Nat → Int32) × Int32) := match w with
  | 0 => none
  | w + 1 => if (2 : Int32) ≤ x1 then (F10_lays_b40 z c_told c_many c_eights c_gains c_isLeftLaid) else (xg (xin x1 2) (xg (xin ((5 : Int32) + x1) 56) ((F10_fills z 6 x1 (0 : Int32) (c_told (xn ((5 : Int32) + x1))) (0 : Int32) c_told (upd c_many (xn x1) (0 : Int32)) c_eights).bind (fun v31 => F10_lays_b7 z w (x1 + (1 : Int32)) c_told v31.1 v31.2 c_gains c_isLeftLaid))))
theorem T10_lays_b7 {X : xX} {c_thrown : Int32} {c_told : (Nat → Int32)} {c_read : (Nat → Int32)} {c_notes : (Nat → Int32)} {c_seen : (Nat → Int32)} {c_turns : (Nat → Int32)} {c_drawn : (Nat → Int32)} {c_state : Int32} {c_tape : (Nat → Int32)} {c_taped : Int32} {c_size : Int32} {c_from : Int32} {c_next : Int32} {c_token : Int32} {c_value : Int32} {c_fault : Int32} {c_number : Int32} {c_fives : (Nat → Int32)} {c_isLeft : (Nat → Int32)} {c_wentTimes : Int32} {c_goes : (Nat → Int32)} {c_game : (Nat → Int32)} {c_rows : Int32} {c_columns : Int32} {c_isFound : Int32} {c_bestValue : Int64} {c_bestBelow : Int64} {c_bestShare : (Nat → Int64)} {c_share : (Nat → Int64)} {c_matrix : (Nat → Int64)} {c_system : (Nat → Int64)} {c_shares : (Nat → Int32)} {c_allShares : Int32} {z : Nat} {v : (Nat → Int32) × (Nat → Int32) × (Nat → Int32) × Int32} (hX : xIs (j10_lays) X none none (hM c_thrown c_told c_read v.1 v.2.1 v.2.2.1 c_notes c_seen c_turns c_drawn c_state c_tape c_taped c_size c_from c_next c_token c_value c_fault c_number c_fives c_isLeft c_wentTimes c_goes v.2.2.2 c_game c_rows c_columns c_isFound c_bestValue c_bestBelow c_bestShare c_share c_matrix c_system c_shares c_allShares)) : ∀ (w : Nat) {x1 : Int32} {c_many : (Nat → Int32)} {c_eights : (Nat → Int32)} {c_gains : (Nat → Int32)} {c_isLeftLaid : Int32}, F10_lays_b7 z w x1 c_told c_many c_eights c_gains c_isLeftLaid = some v → xV (j10_lays) X 0 0 (hM c_thrown c_told c_read c_many c_eights c_gains c_notes c_seen c_turns c_drawn c_state c_tape c_taped c_size c_from c_next c_token c_value c_fault c_number c_fives c_isLeft c_wentTimes c_goes c_isLeftLaid c_game c_rows c_columns c_isFound c_bestValue c_bestBelow c_bestShare c_share c_matrix c_system c_shares c_allShares) 7 [(0, .ref 0), (1, .int x1)] [] := by
  intro w
  induction w with
  | zero => intro x1 c_many c_eights c_gains c_isLeftLaid hf; cases hf
  | succ w ih =>
    intro x1 c_many c_eights c_gains c_isLeftLaid hf
    unfold F10_lays_b7 at hf
    refine xV_iload_n 8 rfl dX10_lays_7 rfl 1 rfl ?_
    refine xV_iconst 9 rfl dX10_lays_8 xk_i2 ?_
    refine xV_icmp_ge (tgt := 40) 12 rfl dX10_lays_9 (by decide) (fun h9 => ?_) (fun h9 => ?_)
    · have hf := xif_t hf h9
      refine xV_sub [0] rfl ?_
      exact T10_lays_b40 hX hf
    · have hf := xif_f hf h9
      refine xV_aload_n 13 rfl dX10_lays_12 rfl 0 rfl ?_
      refine xV_get (v := .ref 3) 16 rfl dX10_lays_13 f10_24 rfl rfl ?_
      refine xV_iload_n 17 rfl dX10_lays_16 rfl 1 rfl ?_
      refine xV_iconst 18 rfl dX10_lays_17 xk_i0 ?_
      obtain ⟨hg18, hf⟩ := xg_s hf
      refine xV_iastore (h' := (hM c_thrown c_told c_read (upd c_many (xn x1) (0 : Int32)) c_eights c_gains c_notes c_seen c_turns c_drawn c_state c_tape c_taped c_size c_from c_next c_token c_value c_fault c_number c_fives c_isLeft c_wentTimes c_goes c_isLeftLaid c_game c_rows c_columns c_isFound c_bestValue c_bestBelow c_bestShare c_share c_matrix c_system c_shares c_allShares)) 19 rfl dX10_lays_18 rfl (xin_ok hg18) rfl rfl ?_
      refine xV_aload_n 20 rfl dX10_lays_19 rfl 0 rfl ?_
      refine xV_iload_n 21 rfl dX10_lays_20 rfl 1 rfl ?_
      refine xV_iconst 22 rfl dX10_lays_21 xk_i0 ?_
      refine xV_aload_n 23 rfl dX10_lays_22 rfl 0 rfl ?_
      refine xV_get (v := .ref 1) 26 rfl dX10_lays_23 f10_17 rfl rfl ?_
      refine xV_iconst 27 rfl dX10_lays_26 xk_i5 ?_
      refine xV_iload_n 28 rfl dX10_lays_27 rfl 1 rfl ?_
      refine xV_iadd 29 rfl dX10_lays_28 ?_
      obtain ⟨hg29, hf⟩ := xg_s hf
      refine xV_iaload 30 rfl dX10_lays_29 rfl (xin_ok hg29) rfl ?_
      refine xV_iconst 31 rfl dX10_lays_30 xk_i0 ?_
      obtain ⟨v31, hv31, hf⟩ := xb_s hf
      refine xV_same (rest := []) 34 rfl dX10_lays_31 rfl (C10_fills X.1.2.1 hv31) m10_fills v10_fills k10_82 rfl rfl rfl rfl rfl (Nat.le_of_ble_eq_true rfl) (Nat.le_of_ble_eq_true rfl) (Nat.le_of_ble_eq_true rfl) ⟨Nat.le_refl _, Nat.le_refl _⟩ ?_
      show xV (j10_lays) X 0 0 (hM c_thrown c_told c_read v31.1 v31.2 c_gains c_notes c_seen c_turns c_drawn c_state c_tape c_taped c_size c_from c_next c_token c_value c_fault c_number c_fives c_isLeft c_wentTimes c_goes c_isLeftLaid c_game c_rows c_columns c_isFound c_bestValue c_bestBelow c_bestShare c_share c_matrix c_system c_shares c_allShares) 34 [(0, .ref 0), (1, .int x1)] []
      refine xV_iinc (L' := [(1, .int (x1 + (1 : Int32))), (0, .ref 0)]) 37 rfl dX10_lays_34 1 rfl (xk_inc xk_i1) (xlt rfl) rfl ?_
      refine xV_goto (tgt := 7) dX10_lays_37 (by decide) ?_
      refine xV_sub [1, 0] rfl ?_
      exact ih hf
def F10_lays (z : Nat) (c_told : (Nat → Int32)) (c_many : (Nat → Int32)) (c_eights : (Nat → Int32)) (c_gains : (Nat → Int32)) (c_isLeftLaid : Int32) : Option ((Nat → Int32) × (Nat → Int32) × (Nat → Int32) × Int32) :=
  F10_lays_b7 z z (0 : Int32) c_told c_many c_eights c_gains (0 : Int32)
theorem T10_lays {X : xX} {z : Nat} {c_told : (Nat → Int32)} {c_many : (Nat → Int32)} {c_eights : (Nat → Int32)} {c_gains : (Nat → Int32)} {c_isLeftLaid : Int32} {c_thrown : Int32} {c_read : (Nat → Int32)} {c_notes : (Nat → Int32)} {c_seen : (Nat → Int32)} {c_turns : (Nat → Int32)} {c_drawn : (Nat → Int32)} {c_state : Int32} {c_tape : (Nat → Int32)} {c_taped : Int32} {c_size : Int32} {c_from : Int32} {c_next : Int32} {c_token : Int32} {c_value : Int32} {c_fault : Int32} {c_number : Int32} {c_fives : (Nat → Int32)} {c_isLeft : (Nat → Int32)} {c_wentTimes : Int32} {c_goes : (Nat → Int32)} {c_game : (Nat → Int32)} {c_rows : Int32} {c_columns : Int32} {c_isFound : Int32} {c_bestValue : Int64} {c_bestBelow : Int64} {c_bestShare : (Nat → Int64)} {c_share : (Nat → Int64)} {c_matrix : (Nat → Int64)} {c_system : (Nat → Int64)} {c_shares : (Nat → Int32)} {c_allShares : Int32} {v : (Nat → Int32) × (Nat → Int32) × (Nat → Int32) × Int32} (hX : xIs (j10_lays) X none none (hM c_thrown c_told c_read v.1 v.2.1 v.2.2.1 c_notes c_seen c_turns c_drawn c_state c_tape c_taped c_size c_from c_next c_token c_value c_fault c_number c_fives c_isLeft c_wentTimes c_goes v.2.2.2 c_game c_rows c_columns c_isFound c_bestValue c_bestBelow c_bestShare c_share c_matrix c_system c_shares c_allShares)) (hf : F10_lays z c_told c_many c_eights c_gains c_isLeftLaid = some v) : xV (j10_lays) X 0 0 (hM c_thrown c_told c_read c_many c_eights c_gains c_notes c_seen c_turns c_drawn c_state c_tape c_taped c_size c_from c_next c_token c_value c_fault c_number c_fives c_isLeft c_wentTimes c_goes c_isLeftLaid c_game c_rows c_columns c_isFound c_bestValue c_bestBelow c_bestShare c_share c_matrix c_system c_shares c_allShares) 0 [(0, .ref 0)] [] := by
  unfold F10_lays at hf
  refine xV_aload_n 1 rfl dX10_lays_0 rfl 0 rfl ?_
  refine xV_iconst 2 rfl dX10_lays_1 xk_i0 ?_
  refine xV_put (h' := (hM c_thrown c_told c_read c_many c_eights c_gains c_notes c_seen c_turns c_drawn c_state c_tape c_taped c_size c_from c_next c_token c_value c_fault c_number c_fives c_isLeft c_wentTimes c_goes (0 : Int32) c_game c_rows c_columns c_isFound c_bestValue c_bestBelow c_bestShare c_share c_matrix c_system c_shares c_allShares)) 5 rfl dX10_lays_2 f10_98 rfl nf10_24 (fun _ => rfl) (fun _ => rfl) (Nat.le_of_ble_eq_true rfl) rfl ?_
  refine xV_iconst 6 rfl dX10_lays_5 xk_i0 ?_
  refine xV_istore_n (L' := [(1, .int (0 : Int32)), (0, .ref 0)]) 7 rfl dX10_lays_6 rfl (xlt rfl) rfl ?_
  refine xV_sub [1, 0] rfl ?_
  exact T10_lays_b7 hX _ hf
theorem C10_lays (l : Launch) {z : Nat} {c_told : (Nat → Int32)} {c_many : (Nat → Int32)} {c_eights : (Nat → Int32)} {c_gains : (Nat → Int32)} {c_isLeftLaid : Int32} {c_thrown : Int32} {c_read : (Nat → Int32)} {c_notes : (Nat → Int32)} {c_seen : (Nat → Int32)} {c_turns : (Nat → Int32)} {c_drawn : (Nat → Int32)} {c_state : Int32} {c_tape : (Nat → Int32)} {c_taped : Int32} {c_size : Int32} {c_from : Int32} {c_next : Int32} {c_token : Int32} {c_value : Int32} {c_fault : Int32} {c_number : Int32} {c_fives : (Nat → Int32)} {c_isLeft : (Nat → Int32)} {c_wentTimes : Int32} {c_goes : (Nat → Int32)} {c_game : (Nat → Int32)} {c_rows : Int32} {c_columns : Int32} {c_isFound : Int32} {c_bestValue : Int64} {c_bestBelow : Int64} {c_bestShare : (Nat → Int64)} {c_share : (Nat → Int64)} {c_matrix : (Nat → Int64)} {c_system : (Nat → Int64)} {c_shares : (Nat → Int32)} {c_allShares : Int32} {v : (Nat → Int32) × (Nat → Int32) × (Nat → Int32) × Int32} (hf : F10_lays z c_told c_many c_eights c_gains c_isLeftLaid = some v) : xCt l yX10_lays none j10_lays [.ref 0] (hM c_thrown c_told c_read c_many c_eights c_gains c_notes c_seen c_turns c_drawn c_state c_tape c_taped c_size c_from c_next c_token c_value c_fault c_number c_fives c_isLeft c_wentTimes c_goes c_isLeftLaid c_game c_rows c_columns c_isFound c_bestValue c_bestBelow c_bestShare c_share c_matrix c_system c_shares c_allShares) none (hM c_thrown c_told c_read v.1 v.2.1 v.2.2.1 c_notes c_seen c_turns c_drawn c_state c_tape c_taped c_size c_from c_next c_token c_value c_fault c_number c_fives c_isLeft c_wentTimes c_goes v.2.2.2 c_game c_rows c_columns c_isFound c_bestValue c_bestBelow c_bestShare c_share c_matrix c_system c_shares c_allShares) := xCt_of (by decide) rfl (Nat.le_of_ble_eq_true rfl) (fun _ hX => T10_lays hX hf)
theorem m10_lays : xMd yX10_lays RX10 none j10_lays 0 := ⟨List.mem_of_getElem? (i := 147) (by decide +kernel), List.mem_of_getElem? (i := 5) (by decide +kernel), rfl, by decide +kernel⟩
theorem v10_lays : xMv yX10_lays RX10 := ⟨List.mem_of_getElem? (i := 145) (by decide +kernel), List.mem_of_getElem? (i := 146) (by decide +kernel)⟩
theorem xk_b24 : (Int8.ofInt (24)).toInt32 = (24 : Int32) := by decide
theorem dX10_at_0 : decode cX10_at 0 = .ok (.bipush 8, 2) := by decide +kernel
theorem dX10_at_2 : decode cX10_at 2 = .ok (.bipush 24, 2) := by decide +kernel
theorem dX10_at_4 : decode cX10_at 4 = .ok (.iload_n 0, 1) := by decide +kernel
theorem dX10_at_5 : decode cX10_at 5 = .ok (.imul, 1) := by decide +kernel
theorem dX10_at_6 : decode cX10_at 6 = .ok (.iadd, 1) := by decide +kernel
theorem dX10_at_7 : decode cX10_at 7 = .ok (.iload_n 1, 1) := by decide +kernel
theorem dX10_at_8 : decode cX10_at 8 = .ok (.iadd, 1) := by decide +kernel
theorem dX10_at_9 : decode cX10_at 9 = .ok (.ireturn, 1) := by decide +kernel
abbrev j10_at : xJ := (cX10_at, 2, RX10, 1, 0, 0)
def F10_at (x0 : Int32) (x1 : Int32) : Option (Int32) :=
  some ((((8 : Int32) + ((24 : Int32) * x0)) + x1))
theorem T10_at {X : xX} {x0 : Int32} {x1 : Int32}  {v : Int32} (hX : xIs (j10_at) X ((some .int)) (some (.int v)) ([] : xHp)) (hf : F10_at x0 x1 = some v) : xV (j10_at) X 0 0 ([] : xHp) 0 [(0, .int x0), (1, .int x1)] [] := by
  unfold F10_at at hf
  refine xV_bipush 2 rfl dX10_at_0 xk_b8 ?_
  refine xV_bipush 4 rfl dX10_at_2 xk_b24 ?_
  refine xV_iload_n 5 rfl dX10_at_4 rfl 0 rfl ?_
  refine xV_imul 6 rfl dX10_at_5 ?_
  refine xV_iadd 7 rfl dX10_at_6 ?_
  refine xV_iload_n 8 rfl dX10_at_7 rfl 1 rfl ?_
  refine xV_iadd 9 rfl dX10_at_8 ?_
  obtain rfl := Option.some.inj hf
  exact xV_iret hX dX10_at_9 rfl (Nat.zero_le _) (Nat.zero_le _)
theorem C10_at (l : Launch) {x0 : Int32} {x1 : Int32}  {v : Int32} (hf : F10_at x0 x1 = some v) : xCt l yX10_at ((some .int)) j10_at [.int x0, .int x1] ([] : xHp) (some (.int v)) ([] : xHp) := xCt_of (by decide) rfl (Nat.le_of_ble_eq_true rfl) (fun _ hX => T10_at hX hf)
theorem m10_at : xMd yX10_at RX10 ((some .int)) j10_at 2 := ⟨List.mem_of_getElem? (i := 455) (by decide +kernel), List.mem_of_getElem? (i := 5) (by decide +kernel), rfl, by decide +kernel⟩
theorem s10_at : Cond.static yX10_at ∈ wsL_law0 := List.mem_of_getElem? (i := 454) (by decide +kernel)
theorem dX10_worths_0 : decode cX10_worths 0 = .ok (.iconst 0, 1) := by decide +kernel
theorem dX10_worths_1 : decode cX10_worths 1 = .ok (.istore_n 1, 1) := by decide +kernel
theorem dX10_worths_2 : decode cX10_worths 2 = .ok (.iconst 0, 1) := by decide +kernel
theorem dX10_worths_3 : decode cX10_worths 3 = .ok (.istore_n 2, 1) := by decide +kernel
theorem dX10_worths_4 : decode cX10_worths 4 = .ok (.iload_n 2, 1) := by decide +kernel
theorem dX10_worths_5 : decode cX10_worths 5 = .ok (.aload_n 0, 1) := by decide +kernel
theorem dX10_worths_6 : decode cX10_worths 6 = .ok (.iconst 0, 1) := by decide +kernel
theorem dX10_worths_7 : decode cX10_worths 7 = .ok (.iaload, 1) := by decide +kernel
theorem dX10_worths_8 : decode cX10_worths 8 = .ok (.if_icmp .ge 17, 3) := by decide +kernel
theorem dX10_worths_11 : decode cX10_worths 11 = .ok (.iload_n 1, 1) := by decide +kernel
theorem dX10_worths_12 : decode cX10_worths 12 = .ok (.aload_n 0, 1) := by decide +kernel
theorem dX10_worths_13 : decode cX10_worths 13 = .ok (.iconst 1, 1) := by decide +kernel
theorem dX10_worths_14 : decode cX10_worths 14 = .ok (.iload_n 2, 1) := by decide +kernel
theorem dX10_worths_15 : decode cX10_worths 15 = .ok (.iadd, 1) := by decide +kernel
theorem dX10_worths_16 : decode cX10_worths 16 = .ok (.iaload, 1) := by decide +kernel
theorem dX10_worths_17 : decode cX10_worths 17 = .ok (.iadd, 1) := by decide +kernel
theorem dX10_worths_18 : decode cX10_worths 18 = .ok (.istore_n 1, 1) := by decide +kernel
theorem dX10_worths_19 : decode cX10_worths 19 = .ok (.iinc 2 1, 3) := by decide +kernel
theorem dX10_worths_22 : decode cX10_worths 22 = .ok (.goto (-18), 3) := by decide +kernel
theorem dX10_worths_25 : decode cX10_worths 25 = .ok (.iload_n 1, 1) := by decide +kernel
theorem dX10_worths_26 : decode cX10_worths 26 = .ok (.ireturn, 1) := by decide +kernel
abbrev j10_worths : xJ := (cX10_worths, 3, RX10, 1, 0, 0)
def F10_worths_b4 (z : Nat) (w : Nat) (x1 : Int32) (x2 : Int32) (c_of : (Nat → Int32)) : Option (Int32) := match w with
  | 0 => none
  | w + 1 => if (c_of 0) ≤ x2 then (some (x1)) else (xg (xin ((1 : Int32) + x2) 56) (F10_worths_b4 z w (x1 + (c_of (xn ((1 : Int32) + x2)))) (x2 + (1 : Int32)) c_of))
theorem T10_worths_b4 {X : xX} {c_of : (Nat → Int32)} {z : Nat} {v : Int32} (hX : xIs (j10_worths) X ((some .int)) (some (.int v)) (hA c_of)) : ∀ (w : Nat) {x1 : Int32} {x2 : Int32}, F10_worths_b4 z w x1 x2 c_of = some v → xV (j10_worths) X 0 0 (hA c_of) 4 [(0, .ref 0), (1, .int x1), (2, .int x2)] [] := by
  intro w
  induction w with
  | zero => intro x1 x2 hf; cases hf
  | succ w ih =>
    intro x1 x2 hf
    unfold F10_worths_b4 at hf
    refine xV_iload_n 5 rfl dX10_worths_4 rfl 2 rfl ?_
    refine xV_aload_n 6 rfl dX10_worths_5 rfl 0 rfl ?_
    refine xV_iconst 7 rfl dX10_worths_6 xk_i0 ?_
    refine xV_iaload 8 rfl dX10_worths_7 rfl xk_in0_56 xk_j0 ?_
    refine xV_icmp_ge (tgt := 25) 11 rfl dX10_worths_8 (by decide) (fun h8 => ?_) (fun h8 => ?_)
    · have hf := xif_t hf h8
      refine xV_iload_n 26 rfl dX10_worths_25 rfl 1 rfl ?_
      obtain rfl := Option.some.inj hf
      exact xV_iret hX dX10_worths_26 rfl (Nat.zero_le _) (Nat.zero_le _)
    · have hf := xif_f hf h8
      refine xV_iload_n 12 rfl dX10_worths_11 rfl 1 rfl ?_
      refine xV_aload_n 13 rfl dX10_worths_12 rfl 0 rfl ?_
      refine xV_iconst 14 rfl dX10_worths_13 xk_i1 ?_
      refine xV_iload_n 15 rfl dX10_worths_14 rfl 2 rfl ?_
      refine xV_iadd 16 rfl dX10_worths_15 ?_
      obtain ⟨hg16, hf⟩ := xg_s hf
      refine xV_iaload 17 rfl dX10_worths_16 rfl (xin_ok hg16) rfl ?_
      refine xV_iadd 18 rfl dX10_worths_17 ?_
      refine xV_istore_n (L' := [(1, .int (x1 + (c_of (xn ((1 : Int32) + x2))))), (0, .ref 0), (2, .int x2)]) 19 rfl dX10_worths_18 rfl (xlt rfl) rfl ?_
      refine xV_iinc (L' := [(2, .int (x2 + (1 : Int32))), (1, .int (x1 + (c_of (xn ((1 : Int32) + x2))))), (0, .ref 0)]) 22 rfl dX10_worths_19 2 rfl (xk_inc xk_i1) (xlt rfl) rfl ?_
      refine xV_goto (tgt := 4) dX10_worths_22 (by decide) ?_
      refine xV_sub [2, 1, 0] rfl ?_
      exact ih hf
def F10_worths (z : Nat) (c_of : (Nat → Int32)) : Option (Int32) :=
  F10_worths_b4 z z (0 : Int32) (0 : Int32) c_of
theorem T10_worths {X : xX} {z : Nat} {c_of : (Nat → Int32)}  {v : Int32} (hX : xIs (j10_worths) X ((some .int)) (some (.int v)) (hA c_of)) (hf : F10_worths z c_of = some v) : xV (j10_worths) X 0 0 (hA c_of) 0 [(0, .ref 0)] [] := by
  unfold F10_worths at hf
  refine xV_iconst 1 rfl dX10_worths_0 xk_i0 ?_
  refine xV_istore_n (L' := [(1, .int (0 : Int32)), (0, .ref 0)]) 2 rfl dX10_worths_1 rfl (xlt rfl) rfl ?_
  refine xV_iconst 3 rfl dX10_worths_2 xk_i0 ?_
  refine xV_istore_n (L' := [(2, .int (0 : Int32)), (1, .int (0 : Int32)), (0, .ref 0)]) 4 rfl dX10_worths_3 rfl (xlt rfl) rfl ?_
  refine xV_sub [2, 1, 0] rfl ?_
  exact T10_worths_b4 hX _ hf
theorem C10_worths (l : Launch) {z : Nat} {c_of : (Nat → Int32)}  {v : Int32} (hf : F10_worths z c_of = some v) : xCt l yX10_worths ((some .int)) j10_worths [.ref 0] (hA c_of) (some (.int v)) (hA c_of) := xCt_of (by decide) rfl (Nat.le_of_ble_eq_true rfl) (fun _ hX => T10_worths hX hf)
theorem m10_worths : xMd yX10_worths RX10 ((some .int)) j10_worths 1 := ⟨List.mem_of_getElem? (i := 441) (by decide +kernel), List.mem_of_getElem? (i := 5) (by decide +kernel), rfl, by decide +kernel⟩
theorem s10_worths : Cond.static yX10_worths ∈ wsL_law0 := List.mem_of_getElem? (i := 440) (by decide +kernel)
theorem dX10_gainFor_0 : decode cX10_gainFor 0 = .ok (.iload_n 1, 1) := by decide +kernel
theorem dX10_gainFor_1 : decode cX10_gainFor 1 = .ok (.ifCond .ne 18, 3) := by decide +kernel
theorem dX10_gainFor_4 : decode cX10_gainFor 4 = .ok (.aload_n 0, 1) := by decide +kernel
theorem dX10_gainFor_5 : decode cX10_gainFor 5 = .ok (.getfield 30, 3) := by decide +kernel
theorem dX10_gainFor_8 : decode cX10_gainFor 8 = .ok (.sipush 128, 3) := by decide +kernel
theorem dX10_gainFor_11 : decode cX10_gainFor 11 = .ok (.iload_n 2, 1) := by decide +kernel
theorem dX10_gainFor_12 : decode cX10_gainFor 12 = .ok (.imul, 1) := by decide +kernel
theorem dX10_gainFor_13 : decode cX10_gainFor 13 = .ok (.iload_n 3, 1) := by decide +kernel
theorem dX10_gainFor_14 : decode cX10_gainFor 14 = .ok (.iadd, 1) := by decide +kernel
theorem dX10_gainFor_15 : decode cX10_gainFor 15 = .ok (.iaload, 1) := by decide +kernel
theorem dX10_gainFor_16 : decode cX10_gainFor 16 = .ok (.goto 16, 3) := by decide +kernel
theorem dX10_gainFor_19 : decode cX10_gainFor 19 = .ok (.aload_n 0, 1) := by decide +kernel
theorem dX10_gainFor_20 : decode cX10_gainFor 20 = .ok (.getfield 30, 3) := by decide +kernel
theorem dX10_gainFor_23 : decode cX10_gainFor 23 = .ok (.sipush 128, 3) := by decide +kernel
theorem dX10_gainFor_26 : decode cX10_gainFor 26 = .ok (.iload_n 3, 1) := by decide +kernel
theorem dX10_gainFor_27 : decode cX10_gainFor 27 = .ok (.imul, 1) := by decide +kernel
theorem dX10_gainFor_28 : decode cX10_gainFor 28 = .ok (.iload_n 2, 1) := by decide +kernel
theorem dX10_gainFor_29 : decode cX10_gainFor 29 = .ok (.iadd, 1) := by decide +kernel
theorem dX10_gainFor_30 : decode cX10_gainFor 30 = .ok (.iaload, 1) := by decide +kernel
theorem dX10_gainFor_31 : decode cX10_gainFor 31 = .ok (.ineg, 1) := by decide +kernel
theorem dX10_gainFor_32 : decode cX10_gainFor 32 = .ok (.ireturn, 1) := by decide +kernel
abbrev j10_gainFor : xJ := (cX10_gainFor, 4, RX10, 1, 0, 0)
def F10_gainFor (x1 : Int32) (x2 : Int32) (x3 : Int32) (c_gains : (Nat → Int32)) : Option (Int32) :=
  if x1 = 0 then (xg (xin (((128 : Int32) * x2) + x3) 16384) (some ((c_gains (xn (((128 : Int32) * x2) + x3)))))) else (xg (xin (((128 : Int32) * x3) + x2) 16384) (some ((-(c_gains (xn (((128 : Int32) * x3) + x2)))))))
theorem T10_gainFor {X : xX} {x1 : Int32} {x2 : Int32} {x3 : Int32} {c_gains : (Nat → Int32)} {c_thrown : Int32} {c_told : (Nat → Int32)} {c_read : (Nat → Int32)} {c_many : (Nat → Int32)} {c_eights : (Nat → Int32)} {c_notes : (Nat → Int32)} {c_seen : (Nat → Int32)} {c_turns : (Nat → Int32)} {c_drawn : (Nat → Int32)} {c_state : Int32} {c_tape : (Nat → Int32)} {c_taped : Int32} {c_size : Int32} {c_from : Int32} {c_next : Int32} {c_token : Int32} {c_value : Int32} {c_fault : Int32} {c_number : Int32} {c_fives : (Nat → Int32)} {c_isLeft : (Nat → Int32)} {c_wentTimes : Int32} {c_goes : (Nat → Int32)} {c_isLeftLaid : Int32} {c_game : (Nat → Int32)} {c_rows : Int32} {c_columns : Int32} {c_isFound : Int32} {c_bestValue : Int64} {c_bestBelow : Int64} {c_bestShare : (Nat → Int64)} {c_share : (Nat → Int64)} {c_matrix : (Nat → Int64)} {c_system : (Nat → Int64)} {c_shares : (Nat → Int32)} {c_allShares : Int32} {v : Int32} (hX : xIs (j10_gainFor) X ((some .int)) (some (.int v)) (hM c_thrown c_told c_read c_many c_eights c_gains c_notes c_seen c_turns c_drawn c_state c_tape c_taped c_size c_from c_next c_token c_value c_fault c_number c_fives c_isLeft c_wentTimes c_goes c_isLeftLaid c_game c_rows c_columns c_isFound c_bestValue c_bestBelow c_bestShare c_share c_matrix c_system c_shares c_allShares)) (hf : F10_gainFor x1 x2 x3 c_gains = some v) : xV (j10_gainFor) X 0 0 (hM c_thrown c_told c_read c_many c_eights c_gains c_notes c_seen c_turns c_drawn c_state c_tape c_taped c_size c_from c_next c_token c_value c_fault c_number c_fives c_isLeft c_wentTimes c_goes c_isLeftLaid c_game c_rows c_columns c_isFound c_bestValue c_bestBelow c_bestShare c_share c_matrix c_system c_shares c_allShares) 0 [(0, .ref 0), (1, .int x1), (2, .int x2), (3, .int x3)] [] := by
  unfold F10_gainFor at hf
  refine xV_iload_n 1 rfl dX10_gainFor_0 rfl 1 rfl ?_
  refine xV_if_ne (tgt := 19) 4 rfl dX10_gainFor_1 (by decide) (fun h1 => ?_) (fun h1 => ?_)
  · have hf := xif_f hf h1
    refine xV_aload_n 20 rfl dX10_gainFor_19 rfl 0 rfl ?_
    refine xV_get (v := .ref 5) 23 rfl dX10_gainFor_20 f10_30 rfl rfl ?_
    refine xV_sipush 26 rfl dX10_gainFor_23 xk_s128 ?_
    refine xV_iload_n 27 rfl dX10_gainFor_26 rfl 3 rfl ?_
    refine xV_imul 28 rfl dX10_gainFor_27 ?_
    refine xV_iload_n 29 rfl dX10_gainFor_28 rfl 2 rfl ?_
    refine xV_iadd 30 rfl dX10_gainFor_29 ?_
    obtain ⟨hg30, hf⟩ := xg_s hf
    refine xV_iaload 31 rfl dX10_gainFor_30 rfl (xin_ok hg30) rfl ?_
    refine xV_ineg 32 rfl dX10_gainFor_31 ?_
    obtain rfl := Option.some.inj hf
    exact xV_iret hX dX10_gainFor_32 rfl (Nat.zero_le _) (Nat.zero_le _)
  · have hf := xif_t hf h1
    refine xV_aload_n 5 rfl dX10_gainFor_4 rfl 0 rfl ?_
    refine xV_get (v := .ref 5) 8 rfl dX10_gainFor_5 f10_30 rfl rfl ?_
    refine xV_sipush 11 rfl dX10_gainFor_8 xk_s128 ?_
    refine xV_iload_n 12 rfl dX10_gainFor_11 rfl 2 rfl ?_
    refine xV_imul 13 rfl dX10_gainFor_12 ?_
    refine xV_iload_n 14 rfl dX10_gainFor_13 rfl 3 rfl ?_
    refine xV_iadd 15 rfl dX10_gainFor_14 ?_
    obtain ⟨hg15, hf⟩ := xg_s hf
    refine xV_iaload 16 rfl dX10_gainFor_15 rfl (xin_ok hg15) rfl ?_
    refine xV_goto (tgt := 32) dX10_gainFor_16 (by decide) ?_
    obtain rfl := Option.some.inj hf
    exact xV_iret hX dX10_gainFor_32 rfl (Nat.zero_le _) (Nat.zero_le _)
theorem C10_gainFor (l : Launch) {x1 : Int32} {x2 : Int32} {x3 : Int32} {c_gains : (Nat → Int32)} {c_thrown : Int32} {c_told : (Nat → Int32)} {c_read : (Nat → Int32)} {c_many : (Nat → Int32)} {c_eights : (Nat → Int32)} {c_notes : (Nat → Int32)} {c_seen : (Nat → Int32)} {c_turns : (Nat → Int32)} {c_drawn : (Nat → Int32)} {c_state : Int32} {c_tape : (Nat → Int32)} {c_taped : Int32} {c_size : Int32} {c_from : Int32} {c_next : Int32} {c_token : Int32} {c_value : Int32} {c_fault : Int32} {c_number : Int32} {c_fives : (Nat → Int32)} {c_isLeft : (Nat → Int32)} {c_wentTimes : Int32} {c_goes : (Nat → Int32)} {c_isLeftLaid : Int32} {c_game : (Nat → Int32)} {c_rows : Int32} {c_columns : Int32} {c_isFound : Int32} {c_bestValue : Int64} {c_bestBelow : Int64} {c_bestShare : (Nat → Int64)} {c_share : (Nat → Int64)} {c_matrix : (Nat → Int64)} {c_system : (Nat → Int64)} {c_shares : (Nat → Int32)} {c_allShares : Int32} {v : Int32} (hf : F10_gainFor x1 x2 x3 c_gains = some v) : xCt l yX10_gainFor ((some .int)) j10_gainFor [.ref 0, .int x1, .int x2, .int x3] (hM c_thrown c_told c_read c_many c_eights c_gains c_notes c_seen c_turns c_drawn c_state c_tape c_taped c_size c_from c_next c_token c_value c_fault c_number c_fives c_isLeft c_wentTimes c_goes c_isLeftLaid c_game c_rows c_columns c_isFound c_bestValue c_bestBelow c_bestShare c_share c_matrix c_system c_shares c_allShares) (some (.int v)) (hM c_thrown c_told c_read c_many c_eights c_gains c_notes c_seen c_turns c_drawn c_state c_tape c_taped c_size c_from c_next c_token c_value c_fault c_number c_fives c_isLeft c_wentTimes c_goes c_isLeftLaid c_game c_rows c_columns c_isFound c_bestValue c_bestBelow c_bestShare c_share c_matrix c_system c_shares c_allShares) := xCt_of (by decide) rfl (Nat.le_of_ble_eq_true rfl) (fun _ hX => T10_gainFor hX hf)
theorem m10_gainFor : xMd yX10_gainFor RX10 ((some .int)) j10_gainFor 3 := ⟨List.mem_of_getElem? (i := 715) (by decide +kernel), List.mem_of_getElem? (i := 5) (by decide +kernel), rfl, by decide +kernel⟩
theorem v10_gainFor : xMv yX10_gainFor RX10 := ⟨List.mem_of_getElem? (i := 713) (by decide +kernel), List.mem_of_getElem? (i := 714) (by decide +kernel)⟩
theorem k10_105 : Cond.methodLink RX10 105 yX10_isSide ∈ wsL_law0 := List.mem_of_getElem? (i := 542) (by decide +kernel)
theorem dX10_isSplit_0 : decode cX10_isSplit 0 = .ok (.iload_n 1, 1) := by decide +kernel
theorem dX10_isSplit_1 : decode cX10_isSplit 1 = .ok (.invokestatic 105, 3) := by decide +kernel
theorem dX10_isSplit_4 : decode cX10_isSplit 4 = .ok (.ifCond .eq 23, 3) := by decide +kernel
theorem dX10_isSplit_7 : decode cX10_isSplit 7 = .ok (.iload_n 2, 1) := by decide +kernel
theorem dX10_isSplit_8 : decode cX10_isSplit 8 = .ok (.iconst 0, 1) := by decide +kernel
theorem dX10_isSplit_9 : decode cX10_isSplit 9 = .ok (.aload_n 0, 1) := by decide +kernel
theorem dX10_isSplit_10 : decode cX10_isSplit 10 = .ok (.getfield 24, 3) := by decide +kernel
theorem dX10_isSplit_13 : decode cX10_isSplit 13 = .ok (.iload_n 1, 1) := by decide +kernel
theorem dX10_isSplit_14 : decode cX10_isSplit 14 = .ok (.iaload, 1) := by decide +kernel
theorem dX10_isSplit_15 : decode cX10_isSplit 15 = .ok (.iconst 1, 1) := by decide +kernel
theorem dX10_isSplit_16 : decode cX10_isSplit 16 = .ok (.isub, 1) := by decide +kernel
theorem dX10_isSplit_17 : decode cX10_isSplit 17 = .ok (.invokestatic 7, 3) := by decide +kernel
theorem dX10_isSplit_20 : decode cX10_isSplit 20 = .ok (.ifCond .eq 7, 3) := by decide +kernel
theorem dX10_isSplit_23 : decode cX10_isSplit 23 = .ok (.iconst 1, 1) := by decide +kernel
theorem dX10_isSplit_24 : decode cX10_isSplit 24 = .ok (.goto 4, 3) := by decide +kernel
theorem dX10_isSplit_27 : decode cX10_isSplit 27 = .ok (.iconst 0, 1) := by decide +kernel
theorem dX10_isSplit_28 : decode cX10_isSplit 28 = .ok (.ireturn, 1) := by decide +kernel
abbrev j10_isSplit : xJ := (cX10_isSplit, 3, RX10, 3, 0, 0)
def F10_isSplit (x1 : Int32) (x2 : Int32) (c_many : (Nat → Int32)) : Option (Int32) :=
  (F10_isSide x1).bind (fun v1 => if v1 = 0 then (some ((0 : Int32))) else (xg (xin x1 2) ((F10_within x2 (0 : Int32) ((c_many (xn x1)) - (1 : Int32))).bind (fun v17 => if v17 = 0 then (some ((0 : Int32))) else (some ((1 : Int32)))))))
theorem T10_isSplit {X : xX} {x1 : Int32} {x2 : Int32} {c_many : (Nat → Int32)} {c_thrown : Int32} {c_told : (Nat → Int32)} {c_read : (Nat → Int32)} {c_eights : (Nat → Int32)} {c_gains : (Nat → Int32)} {c_notes : (Nat → Int32)} {c_seen : (Nat → Int32)} {c_turns : (Nat → Int32)} {c_drawn : (Nat → Int32)} {c_state : Int32} {c_tape : (Nat → Int32)} {c_taped : Int32} {c_size : Int32} {c_from : Int32} {c_next : Int32} {c_token : Int32} {c_value : Int32} {c_fault : Int32} {c_number : Int32} {c_fives : (Nat → Int32)} {c_isLeft : (Nat → Int32)} {c_wentTimes : Int32} {c_goes : (Nat → Int32)} {c_isLeftLaid : Int32} {c_game : (Nat → Int32)} {c_rows : Int32} {c_columns : Int32} {c_isFound : Int32} {c_bestValue : Int64} {c_bestBelow : Int64} {c_bestShare : (Nat → Int64)} {c_share : (Nat → Int64)} {c_matrix : (Nat → Int64)} {c_system : (Nat → Int64)} {c_shares : (Nat → Int32)} {c_allShares : Int32} {v : Int32} (hX : xIs (j10_isSplit) X ((some .boolean)) (some (.int v)) (hM c_thrown c_told c_read c_many c_eights c_gains c_notes c_seen c_turns c_drawn c_state c_tape c_taped c_size c_from c_next c_token c_value c_fault c_number c_fives c_isLeft c_wentTimes c_goes c_isLeftLaid c_game c_rows c_columns c_isFound c_bestValue c_bestBelow c_bestShare c_share c_matrix c_system c_shares c_allShares)) (hf : F10_isSplit x1 x2 c_many = some v) : xV (j10_isSplit) X 0 0 (hM c_thrown c_told c_read c_many c_eights c_gains c_notes c_seen c_turns c_drawn c_state c_tape c_taped c_size c_from c_next c_token c_value c_fault c_number c_fives c_isLeft c_wentTimes c_goes c_isLeftLaid c_game c_rows c_columns c_isFound c_bestValue c_bestBelow c_bestShare c_share c_matrix c_system c_shares c_allShares) 0 [(0, .ref 0), (1, .int x1), (2, .int x2)] [] := by
  unfold F10_isSplit at hf
  refine xV_iload_n 1 rfl dX10_isSplit_0 rfl 1 rfl ?_
  obtain ⟨v1, hv1, hf⟩ := xb_s hf
  refine xV_st0 (rest := []) 4 rfl dX10_isSplit_1 rfl (C10_isSide X.1.2.1 hv1) m10_isSide s10_isSide k10_105 rfl (Nat.le_of_ble_eq_true rfl) (Nat.le_of_ble_eq_true rfl) (Nat.le_of_ble_eq_true rfl) ⟨Nat.le_refl _, Nat.le_refl _⟩ ?_
  show xV (j10_isSplit) X 0 0 (hM c_thrown c_told c_read c_many c_eights c_gains c_notes c_seen c_turns c_drawn c_state c_tape c_taped c_size c_from c_next c_token c_value c_fault c_number c_fives c_isLeft c_wentTimes c_goes c_isLeftLaid c_game c_rows c_columns c_isFound c_bestValue c_bestBelow c_bestShare c_share c_matrix c_system c_shares c_allShares) 4 [(0, .ref 0), (1, .int x1), (2, .int x2)] [.int v1]
  refine xV_if_eq (tgt := 27) 7 rfl dX10_isSplit_4 (by decide) (fun h4 => ?_) (fun h4 => ?_)
  · have hf := xif_t hf h4
    refine xV_iconst 28 rfl dX10_isSplit_27 xk_i0 ?_
    obtain rfl := Option.some.inj hf
    exact xV_iret hX dX10_isSplit_28 (xbo_ok rfl) (Nat.zero_le _) (Nat.zero_le _)
  · have hf := xif_f hf h4
    refine xV_iload_n 8 rfl dX10_isSplit_7 rfl 2 rfl ?_
    refine xV_iconst 9 rfl dX10_isSplit_8 xk_i0 ?_
    refine xV_aload_n 10 rfl dX10_isSplit_9 rfl 0 rfl ?_
    refine xV_get (v := .ref 3) 13 rfl dX10_isSplit_10 f10_24 rfl rfl ?_
    refine xV_iload_n 14 rfl dX10_isSplit_13 rfl 1 rfl ?_
    obtain ⟨hg14, hf⟩ := xg_s hf
    refine xV_iaload 15 rfl dX10_isSplit_14 rfl (xin_ok hg14) rfl ?_
    refine xV_iconst 16 rfl dX10_isSplit_15 xk_i1 ?_
    refine xV_isub 17 rfl dX10_isSplit_16 ?_
    obtain ⟨v17, hv17, hf⟩ := xb_s hf
    refine xV_st0 (rest := []) 20 rfl dX10_isSplit_17 rfl (C10_within X.1.2.1 hv17) m10_within s10_within k10_7 rfl (Nat.le_of_ble_eq_true rfl) (Nat.le_of_ble_eq_true rfl) (Nat.le_of_ble_eq_true rfl) ⟨Nat.le_refl _, Nat.le_refl _⟩ ?_
    show xV (j10_isSplit) X 0 0 (hM c_thrown c_told c_read c_many c_eights c_gains c_notes c_seen c_turns c_drawn c_state c_tape c_taped c_size c_from c_next c_token c_value c_fault c_number c_fives c_isLeft c_wentTimes c_goes c_isLeftLaid c_game c_rows c_columns c_isFound c_bestValue c_bestBelow c_bestShare c_share c_matrix c_system c_shares c_allShares) 20 [(0, .ref 0), (1, .int x1), (2, .int x2)] [.int v17]
    refine xV_if_eq (tgt := 27) 23 rfl dX10_isSplit_20 (by decide) (fun h20 => ?_) (fun h20 => ?_)
    · have hf := xif_t hf h20
      refine xV_iconst 28 rfl dX10_isSplit_27 xk_i0 ?_
      obtain rfl := Option.some.inj hf
      exact xV_iret hX dX10_isSplit_28 (xbo_ok rfl) (Nat.zero_le _) (Nat.zero_le _)
    · have hf := xif_f hf h20
      refine xV_iconst 24 rfl dX10_isSplit_23 xk_i1 ?_
      refine xV_goto (tgt := 28) dX10_isSplit_24 (by decide) ?_
      obtain rfl := Option.some.inj hf
      exact xV_iret hX dX10_isSplit_28 (xbo_ok rfl) (Nat.zero_le _) (Nat.zero_le _)
theorem C10_isSplit (l : Launch) {x1 : Int32} {x2 : Int32} {c_many : (Nat → Int32)} {c_thrown : Int32} {c_told : (Nat → Int32)} {c_read : (Nat → Int32)} {c_eights : (Nat → Int32)} {c_gains : (Nat → Int32)} {c_notes : (Nat → Int32)} {c_seen : (Nat → Int32)} {c_turns : (Nat → Int32)} {c_drawn : (Nat → Int32)} {c_state : Int32} {c_tape : (Nat → Int32)} {c_taped : Int32} {c_size : Int32} {c_from : Int32} {c_next : Int32} {c_token : Int32} {c_value : Int32} {c_fault : Int32} {c_number : Int32} {c_fives : (Nat → Int32)} {c_isLeft : (Nat → Int32)} {c_wentTimes : Int32} {c_goes : (Nat → Int32)} {c_isLeftLaid : Int32} {c_game : (Nat → Int32)} {c_rows : Int32} {c_columns : Int32} {c_isFound : Int32} {c_bestValue : Int64} {c_bestBelow : Int64} {c_bestShare : (Nat → Int64)} {c_share : (Nat → Int64)} {c_matrix : (Nat → Int64)} {c_system : (Nat → Int64)} {c_shares : (Nat → Int32)} {c_allShares : Int32} {v : Int32} (hf : F10_isSplit x1 x2 c_many = some v) : xCt l yX10_isSplit ((some .boolean)) j10_isSplit [.ref 0, .int x1, .int x2] (hM c_thrown c_told c_read c_many c_eights c_gains c_notes c_seen c_turns c_drawn c_state c_tape c_taped c_size c_from c_next c_token c_value c_fault c_number c_fives c_isLeft c_wentTimes c_goes c_isLeftLaid c_game c_rows c_columns c_isFound c_bestValue c_bestBelow c_bestShare c_share c_matrix c_system c_shares c_allShares) (some (.int v)) (hM c_thrown c_told c_read c_many c_eights c_gains c_notes c_seen c_turns c_drawn c_state c_tape c_taped c_size c_from c_next c_token c_value c_fault c_number c_fives c_isLeft c_wentTimes c_goes c_isLeftLaid c_game c_rows c_columns c_isFound c_bestValue c_bestBelow c_bestShare c_share c_matrix c_system c_shares c_allShares) := xCt_of (by decide) rfl (Nat.le_of_ble_eq_true rfl) (fun _ hX => T10_isSplit hX hf)
theorem m10_isSplit : xMd yX10_isSplit RX10 ((some .boolean)) j10_isSplit 2 := ⟨List.mem_of_getElem? (i := 586) (by decide +kernel), List.mem_of_getElem? (i := 5) (by decide +kernel), rfl, by decide +kernel⟩
theorem v10_isSplit : xMv yX10_isSplit RX10 := ⟨List.mem_of_getElem? (i := 584) (by decide +kernel), List.mem_of_getElem? (i := 585) (by decide +kernel)⟩
theorem dX10_numberOf_0 : decode cX10_numberOf 0 = .ok (.iconst 0, 1) := by decide +kernel
theorem dX10_numberOf_1 : decode cX10_numberOf 1 = .ok (.istore_n 3, 1) := by decide +kernel
theorem dX10_numberOf_2 : decode cX10_numberOf 2 = .ok (.iload_n 3, 1) := by decide +kernel
theorem dX10_numberOf_3 : decode cX10_numberOf 3 = .ok (.aload_n 0, 1) := by decide +kernel
theorem dX10_numberOf_4 : decode cX10_numberOf 4 = .ok (.getfield 24, 3) := by decide +kernel
theorem dX10_numberOf_7 : decode cX10_numberOf 7 = .ok (.iload_n 1, 1) := by decide +kernel
theorem dX10_numberOf_8 : decode cX10_numberOf 8 = .ok (.iaload, 1) := by decide +kernel
theorem dX10_numberOf_9 : decode cX10_numberOf 9 = .ok (.if_icmp .ge 21, 3) := by decide +kernel
theorem dX10_numberOf_12 : decode cX10_numberOf 12 = .ok (.aload_n 0, 1) := by decide +kernel
theorem dX10_numberOf_13 : decode cX10_numberOf 13 = .ok (.iload_n 1, 1) := by decide +kernel
theorem dX10_numberOf_14 : decode cX10_numberOf 14 = .ok (.iload_n 3, 1) := by decide +kernel
theorem dX10_numberOf_15 : decode cX10_numberOf 15 = .ok (.invokevirtual 86, 3) := by decide +kernel
theorem dX10_numberOf_18 : decode cX10_numberOf 18 = .ok (.iload_n 2, 1) := by decide +kernel
theorem dX10_numberOf_19 : decode cX10_numberOf 19 = .ok (.if_icmp .ne 5, 3) := by decide +kernel
theorem dX10_numberOf_22 : decode cX10_numberOf 22 = .ok (.iload_n 3, 1) := by decide +kernel
theorem dX10_numberOf_23 : decode cX10_numberOf 23 = .ok (.ireturn, 1) := by decide +kernel
theorem dX10_numberOf_24 : decode cX10_numberOf 24 = .ok (.iinc 3 1, 3) := by decide +kernel
theorem dX10_numberOf_27 : decode cX10_numberOf 27 = .ok (.goto (-25), 3) := by decide +kernel
theorem dX10_numberOf_30 : decode cX10_numberOf 30 = .ok (.iconst (-1), 1) := by decide +kernel
theorem dX10_numberOf_31 : decode cX10_numberOf 31 = .ok (.ireturn, 1) := by decide +kernel
abbrev j10_numberOf : xJ := (cX10_numberOf, 4, RX10, 2, 0, 0)
def F10_numberOf_b2 (z : Nat) (w : Nat) (x1 : Int32) (x2 : Int32) (x3 : Int32) (c_many : (Nat → Int32)) (c_eights : (Nat → Int32)) : Option (Int32) := match w with
  | 0 => none
  | w + 1 => xg (xin x1 2) (if (c_many (xn x1)) ≤ x3 then (some ((-1 : Int32))) else ((F10_eightsOf x1 x3 c_eights).bind (fun v15 => if v15 = x2 then (some (x3)) else (F10_numberOf_b2 z w x1 x2 (x3 + (1 : Int32)) c_many c_eights))))
theorem T10_numberOf_b2 {X : xX} {c_thrown : Int32} {c_told : (Nat → Int32)} {c_read : (Nat → Int32)} {c_many : (Nat → Int32)} {c_eights : (Nat → Int32)} {c_gains : (Nat → Int32)} {c_notes : (Nat → Int32)} {c_seen : (Nat → Int32)} {c_turns : (Nat → Int32)} {c_drawn : (Nat → Int32)} {c_state : Int32} {c_tape : (Nat → Int32)} {c_taped : Int32} {c_size : Int32} {c_from : Int32} {c_next : Int32} {c_token : Int32} {c_value : Int32} {c_fault : Int32} {c_number : Int32} {c_fives : (Nat → Int32)} {c_isLeft : (Nat → Int32)} {c_wentTimes : Int32} {c_goes : (Nat → Int32)} {c_isLeftLaid : Int32} {c_game : (Nat → Int32)} {c_rows : Int32} {c_columns : Int32} {c_isFound : Int32} {c_bestValue : Int64} {c_bestBelow : Int64} {c_bestShare : (Nat → Int64)} {c_share : (Nat → Int64)} {c_matrix : (Nat → Int64)} {c_system : (Nat → Int64)} {c_shares : (Nat → Int32)} {c_allShares : Int32} {z : Nat} {v : Int32} (hX : xIs (j10_numberOf) X ((some .int)) (some (.int v)) (hM c_thrown c_told c_read c_many c_eights c_gains c_notes c_seen c_turns c_drawn c_state c_tape c_taped c_size c_from c_next c_token c_value c_fault c_number c_fives c_isLeft c_wentTimes c_goes c_isLeftLaid c_game c_rows c_columns c_isFound c_bestValue c_bestBelow c_bestShare c_share c_matrix c_system c_shares c_allShares)) : ∀ (w : Nat) {x1 : Int32} {x2 : Int32} {x3 : Int32}, F10_numberOf_b2 z w x1 x2 x3 c_many c_eights = some v → xV (j10_numberOf) X 0 0 (hM c_thrown c_told c_read c_many c_eights c_gains c_notes c_seen c_turns c_drawn c_state c_tape c_taped c_size c_from c_next c_token c_value c_fault c_number c_fives c_isLeft c_wentTimes c_goes c_isLeftLaid c_game c_rows c_columns c_isFound c_bestValue c_bestBelow c_bestShare c_share c_matrix c_system c_shares c_allShares) 2 [(0, .ref 0), (1, .int x1), (2, .int x2), (3, .int x3)] [] := by
  intro w
  induction w with
  | zero => intro x1 x2 x3 hf; cases hf
  | succ w ih =>
    intro x1 x2 x3 hf
    unfold F10_numberOf_b2 at hf
    refine xV_iload_n 3 rfl dX10_numberOf_2 rfl 3 rfl ?_
    refine xV_aload_n 4 rfl dX10_numberOf_3 rfl 0 rfl ?_
    refine xV_get (v := .ref 3) 7 rfl dX10_numberOf_4 f10_24 rfl rfl ?_
    refine xV_iload_n 8 rfl dX10_numberOf_7 rfl 1 rfl ?_
    obtain ⟨hg8, hf⟩ := xg_s hf
    refine xV_iaload 9 rfl dX10_numberOf_8 rfl (xin_ok hg8) rfl ?_
    refine xV_icmp_ge (tgt := 30) 12 rfl dX10_numberOf_9 (by decide) (fun h9 => ?_) (fun h9 => ?_)
    · have hf := xif_t hf h9
      refine xV_iconst 31 rfl dX10_numberOf_30 xk_im1 ?_
      obtain rfl := Option.some.inj hf
      exact xV_iret hX dX10_numberOf_31 rfl (Nat.zero_le _) (Nat.zero_le _)
    · have hf := xif_f hf h9
      refine xV_aload_n 13 rfl dX10_numberOf_12 rfl 0 rfl ?_
      refine xV_iload_n 14 rfl dX10_numberOf_13 rfl 1 rfl ?_
      refine xV_iload_n 15 rfl dX10_numberOf_14 rfl 3 rfl ?_
      obtain ⟨v15, hv15, hf⟩ := xb_s hf
      refine xV_same (rest := []) 18 rfl dX10_numberOf_15 rfl (C10_eightsOf X.1.2.1 hv15) m10_eightsOf v10_eightsOf k10_86 rfl rfl rfl rfl rfl (Nat.le_of_ble_eq_true rfl) (Nat.le_of_ble_eq_true rfl) (Nat.le_of_ble_eq_true rfl) ⟨Nat.le_refl _, Nat.le_refl _⟩ ?_
      show xV (j10_numberOf) X 0 0 (hM c_thrown c_told c_read c_many c_eights c_gains c_notes c_seen c_turns c_drawn c_state c_tape c_taped c_size c_from c_next c_token c_value c_fault c_number c_fives c_isLeft c_wentTimes c_goes c_isLeftLaid c_game c_rows c_columns c_isFound c_bestValue c_bestBelow c_bestShare c_share c_matrix c_system c_shares c_allShares) 18 [(0, .ref 0), (1, .int x1), (2, .int x2), (3, .int x3)] [.int v15]
      refine xV_iload_n 19 rfl dX10_numberOf_18 rfl 2 rfl ?_
      refine xV_icmp_ne (tgt := 24) 22 rfl dX10_numberOf_19 (by decide) (fun h19 => ?_) (fun h19 => ?_)
      · have hf := xif_f hf h19
        refine xV_iinc (L' := [(3, .int (x3 + (1 : Int32))), (0, .ref 0), (1, .int x1), (2, .int x2)]) 27 rfl dX10_numberOf_24 3 rfl (xk_inc xk_i1) (xlt rfl) rfl ?_
        refine xV_goto (tgt := 2) dX10_numberOf_27 (by decide) ?_
        refine xV_sub [1, 2, 3, 0] rfl ?_
        exact ih hf
      · have hf := xif_t hf h19
        refine xV_iload_n 23 rfl dX10_numberOf_22 rfl 3 rfl ?_
        obtain rfl := Option.some.inj hf
        exact xV_iret hX dX10_numberOf_23 rfl (Nat.zero_le _) (Nat.zero_le _)
def F10_numberOf (z : Nat) (x1 : Int32) (x2 : Int32) (c_many : (Nat → Int32)) (c_eights : (Nat → Int32)) : Option (Int32) :=
  F10_numberOf_b2 z z x1 x2 (0 : Int32) c_many c_eights
theorem T10_numberOf {X : xX} {z : Nat} {x1 : Int32} {x2 : Int32} {c_many : (Nat → Int32)} {c_eights : (Nat → Int32)} {c_thrown : Int32} {c_told : (Nat → Int32)} {c_read : (Nat → Int32)} {c_gains : (Nat → Int32)} {c_notes : (Nat → Int32)} {c_seen : (Nat → Int32)} {c_turns : (Nat → Int32)} {c_drawn : (Nat → Int32)} {c_state : Int32} {c_tape : (Nat → Int32)} {c_taped : Int32} {c_size : Int32} {c_from : Int32} {c_next : Int32} {c_token : Int32} {c_value : Int32} {c_fault : Int32} {c_number : Int32} {c_fives : (Nat → Int32)} {c_isLeft : (Nat → Int32)} {c_wentTimes : Int32} {c_goes : (Nat → Int32)} {c_isLeftLaid : Int32} {c_game : (Nat → Int32)} {c_rows : Int32} {c_columns : Int32} {c_isFound : Int32} {c_bestValue : Int64} {c_bestBelow : Int64} {c_bestShare : (Nat → Int64)} {c_share : (Nat → Int64)} {c_matrix : (Nat → Int64)} {c_system : (Nat → Int64)} {c_shares : (Nat → Int32)} {c_allShares : Int32} {v : Int32} (hX : xIs (j10_numberOf) X ((some .int)) (some (.int v)) (hM c_thrown c_told c_read c_many c_eights c_gains c_notes c_seen c_turns c_drawn c_state c_tape c_taped c_size c_from c_next c_token c_value c_fault c_number c_fives c_isLeft c_wentTimes c_goes c_isLeftLaid c_game c_rows c_columns c_isFound c_bestValue c_bestBelow c_bestShare c_share c_matrix c_system c_shares c_allShares)) (hf : F10_numberOf z x1 x2 c_many c_eights = some v) : xV (j10_numberOf) X 0 0 (hM c_thrown c_told c_read c_many c_eights c_gains c_notes c_seen c_turns c_drawn c_state c_tape c_taped c_size c_from c_next c_token c_value c_fault c_number c_fives c_isLeft c_wentTimes c_goes c_isLeftLaid c_game c_rows c_columns c_isFound c_bestValue c_bestBelow c_bestShare c_share c_matrix c_system c_shares c_allShares) 0 [(0, .ref 0), (1, .int x1), (2, .int x2)] [] := by
  unfold F10_numberOf at hf
  refine xV_iconst 1 rfl dX10_numberOf_0 xk_i0 ?_
  refine xV_istore_n (L' := [(3, .int (0 : Int32)), (0, .ref 0), (1, .int x1), (2, .int x2)]) 2 rfl dX10_numberOf_1 rfl (xlt rfl) rfl ?_
  refine xV_sub [1, 2, 3, 0] rfl ?_
  exact T10_numberOf_b2 hX _ hf
theorem C10_numberOf (l : Launch) {z : Nat} {x1 : Int32} {x2 : Int32} {c_many : (Nat → Int32)} {c_eights : (Nat → Int32)} {c_thrown : Int32} {c_told : (Nat → Int32)} {c_read : (Nat → Int32)} {c_gains : (Nat → Int32)} {c_notes : (Nat → Int32)} {c_seen : (Nat → Int32)} {c_turns : (Nat → Int32)} {c_drawn : (Nat → Int32)} {c_state : Int32} {c_tape : (Nat → Int32)} {c_taped : Int32} {c_size : Int32} {c_from : Int32} {c_next : Int32} {c_token : Int32} {c_value : Int32} {c_fault : Int32} {c_number : Int32} {c_fives : (Nat → Int32)} {c_isLeft : (Nat → Int32)} {c_wentTimes : Int32} {c_goes : (Nat → Int32)} {c_isLeftLaid : Int32} {c_game : (Nat → Int32)} {c_rows : Int32} {c_columns : Int32} {c_isFound : Int32} {c_bestValue : Int64} {c_bestBelow : Int64} {c_bestShare : (Nat → Int64)} {c_share : (Nat → Int64)} {c_matrix : (Nat → Int64)} {c_system : (Nat → Int64)} {c_shares : (Nat → Int32)} {c_allShares : Int32} {v : Int32} (hf : F10_numberOf z x1 x2 c_many c_eights = some v) : xCt l yX10_numberOf ((some .int)) j10_numberOf [.ref 0, .int x1, .int x2] (hM c_thrown c_told c_read c_many c_eights c_gains c_notes c_seen c_turns c_drawn c_state c_tape c_taped c_size c_from c_next c_token c_value c_fault c_number c_fives c_isLeft c_wentTimes c_goes c_isLeftLaid c_game c_rows c_columns c_isFound c_bestValue c_bestBelow c_bestShare c_share c_matrix c_system c_shares c_allShares) (some (.int v)) (hM c_thrown c_told c_read c_many c_eights c_gains c_notes c_seen c_turns c_drawn c_state c_tape c_taped c_size c_from c_next c_token c_value c_fault c_number c_fives c_isLeft c_wentTimes c_goes c_isLeftLaid c_game c_rows c_columns c_isFound c_bestValue c_bestBelow c_bestShare c_share c_matrix c_system c_shares c_allShares) := xCt_of (by decide) rfl (Nat.le_of_ble_eq_true rfl) (fun _ hX => T10_numberOf hX hf)
theorem m10_numberOf : xMd yX10_numberOf RX10 ((some .int)) j10_numberOf 2 := ⟨List.mem_of_getElem? (i := 603) (by decide +kernel), List.mem_of_getElem? (i := 5) (by decide +kernel), rfl, by decide +kernel⟩
theorem v10_numberOf : xMv yX10_numberOf RX10 := ⟨List.mem_of_getElem? (i := 601) (by decide +kernel), List.mem_of_getElem? (i := 602) (by decide +kernel)⟩
theorem xk_s256 : (Int16.ofInt (256)).toInt32 = (256 : Int32) := by decide
theorem xk_in0_256 : vp_in (0 : Int32) 256 := xin_ok (by decide)
theorem f10_36 : xFl RX10 36 10 7 := ⟨_, rfl, by decide, List.mem_of_getElem? (i := 128) (by decide +kernel)⟩
theorem f10_33 : xFl RX10 33 10 6 := ⟨_, rfl, by decide, List.mem_of_getElem? (i := 127) (by decide +kernel)⟩
theorem dX10_endsNotes_0 : decode cX10_endsNotes 0 = .ok (.iconst 0, 1) := by decide +kernel
theorem dX10_endsNotes_1 : decode cX10_endsNotes 1 = .ok (.istore_n 1, 1) := by decide +kernel
theorem dX10_endsNotes_2 : decode cX10_endsNotes 2 = .ok (.iload_n 1, 1) := by decide +kernel
theorem dX10_endsNotes_3 : decode cX10_endsNotes 3 = .ok (.sipush 256, 3) := by decide +kernel
theorem dX10_endsNotes_6 : decode cX10_endsNotes 6 = .ok (.if_icmp .ge 16, 3) := by decide +kernel
theorem dX10_endsNotes_9 : decode cX10_endsNotes 9 = .ok (.aload_n 0, 1) := by decide +kernel
theorem dX10_endsNotes_10 : decode cX10_endsNotes 10 = .ok (.getfield 36, 3) := by decide +kernel
theorem dX10_endsNotes_13 : decode cX10_endsNotes 13 = .ok (.iload_n 1, 1) := by decide +kernel
theorem dX10_endsNotes_14 : decode cX10_endsNotes 14 = .ok (.iconst 0, 1) := by decide +kernel
theorem dX10_endsNotes_15 : decode cX10_endsNotes 15 = .ok (.iastore, 1) := by decide +kernel
theorem dX10_endsNotes_16 : decode cX10_endsNotes 16 = .ok (.iinc 1 1, 3) := by decide +kernel
theorem dX10_endsNotes_19 : decode cX10_endsNotes 19 = .ok (.goto (-17), 3) := by decide +kernel
theorem dX10_endsNotes_22 : decode cX10_endsNotes 22 = .ok (.aload_n 0, 1) := by decide +kernel
theorem dX10_endsNotes_23 : decode cX10_endsNotes 23 = .ok (.getfield 33, 3) := by decide +kernel
theorem dX10_endsNotes_26 : decode cX10_endsNotes 26 = .ok (.iconst 0, 1) := by decide +kernel
theorem dX10_endsNotes_27 : decode cX10_endsNotes 27 = .ok (.iconst 0, 1) := by decide +kernel
theorem dX10_endsNotes_28 : decode cX10_endsNotes 28 = .ok (.iastore, 1) := by decide +kernel
theorem dX10_endsNotes_29 : decode cX10_endsNotes 29 = .ok (.aload_n 0, 1) := by decide +kernel
theorem dX10_endsNotes_30 : decode cX10_endsNotes 30 = .ok (.getfield 33, 3) := by decide +kernel
theorem dX10_endsNotes_33 : decode cX10_endsNotes 33 = .ok (.iconst 1, 1) := by decide +kernel
theorem dX10_endsNotes_34 : decode cX10_endsNotes 34 = .ok (.iconst 0, 1) := by decide +kernel
theorem dX10_endsNotes_35 : decode cX10_endsNotes 35 = .ok (.iastore, 1) := by decide +kernel
theorem dX10_endsNotes_36 : decode cX10_endsNotes 36 = .ok (.return_, 1) := by decide +kernel
abbrev j10_endsNotes : xJ := (cX10_endsNotes, 2, RX10, 1, 0, 0)
def F10_endsNotes_b22 (z : Nat) (c_notes : (Nat → Int32)) (c_seen : (Nat → Int32)) : Option ((Nat → Int32) × (Nat → Int32)) :=
  some ((upd (upd c_notes 0 (0 : Int32)) 1 (0 : Int32)), c_seen)
theorem T10_endsNotes_b22 {X : xX} {c_thrown : Int32} {c_told : (Nat → Int32)} {c_read : (Nat → Int32)} {c_many : (Nat → Int32)} {c_eights : (Nat → Int32)} {c_gains : (Nat → Int32)} {c_turns : (Nat → Int32)} {c_drawn : (Nat → Int32)} {c_state : Int32} {c_tape : (Nat → Int32)} {c_taped : Int32} {c_size : Int32} {c_from : Int32} {c_next : Int32} {c_token : Int32} {c_value : Int32} {c_fault : Int32} {c_number : Int32} {c_fives : (Nat → Int32)} {c_isLeft : (Nat → Int32)} {c_wentTimes : Int32} {c_goes : (Nat → Int32)} {c_isLeftLaid : Int32} {c_game : (Nat → Int32)} {c_rows : Int32} {c_columns : Int32} {c_isFound : Int32} {c_bestValue : Int64} {c_bestBelow : Int64} {c_bestShare : (Nat → Int64)} {c_share : (Nat → Int64)} {c_matrix : (Nat → Int64)} {c_system : (Nat → Int64)} {c_shares : (Nat → Int32)} {c_allShares : Int32} {c_notes : (Nat → Int32)} {c_seen : (Nat → Int32)} {z : Nat} {v : (Nat → Int32) × (Nat → Int32)} (hX : xIs (j10_endsNotes) X none none (hM c_thrown c_told c_read c_many c_eights c_gains v.1 v.2 c_turns c_drawn c_state c_tape c_taped c_size c_from c_next c_token c_value c_fault c_number c_fives c_isLeft c_wentTimes c_goes c_isLeftLaid c_game c_rows c_columns c_isFound c_bestValue c_bestBelow c_bestShare c_share c_matrix c_system c_shares c_allShares)) (hf : F10_endsNotes_b22 z c_notes c_seen = some v) : xV (j10_endsNotes) X 0 0 (hM c_thrown c_told c_read c_many c_eights c_gains c_notes c_seen c_turns c_drawn c_state c_tape c_taped c_size c_from c_next c_token c_value c_fault c_number c_fives c_isLeft c_wentTimes c_goes c_isLeftLaid c_game c_rows c_columns c_isFound c_bestValue c_bestBelow c_bestShare c_share c_matrix c_system c_shares c_allShares) 22 [(0, .ref 0)] [] := by
  unfold F10_endsNotes_b22 at hf
  refine xV_aload_n 23 rfl dX10_endsNotes_22 rfl 0 rfl ?_
  refine xV_get (v := .ref 6) 26 rfl dX10_endsNotes_23 f10_33 rfl rfl ?_
  refine xV_iconst 27 rfl dX10_endsNotes_26 xk_i0 ?_
  refine xV_iconst 28 rfl dX10_endsNotes_27 xk_i0 ?_
  refine xV_iastore (h' := (hM c_thrown c_told c_read c_many c_eights c_gains (upd c_notes 0 (0 : Int32)) c_seen c_turns c_drawn c_state c_tape c_taped c_size c_from c_next c_token c_value c_fault c_number c_fives c_isLeft c_wentTimes c_goes c_isLeftLaid c_game c_rows c_columns c_isFound c_bestValue c_bestBelow c_bestShare c_share c_matrix c_system c_shares c_allShares)) 29 rfl dX10_endsNotes_28 rfl xk_in0_2 xk_j0 rfl ?_
  refine xV_aload_n 30 rfl dX10_endsNotes_29 rfl 0 rfl ?_
  refine xV_get (v := .ref 6) 33 rfl dX10_endsNotes_30 f10_33 rfl rfl ?_
  refine xV_iconst 34 rfl dX10_endsNotes_33 xk_i1 ?_
  refine xV_iconst 35 rfl dX10_endsNotes_34 xk_i0 ?_
  refine xV_iastore (h' := (hM c_thrown c_told c_read c_many c_eights c_gains (upd (upd c_notes 0 (0 : Int32)) 1 (0 : Int32)) c_seen c_turns c_drawn c_state c_tape c_taped c_size c_from c_next c_token c_value c_fault c_number c_fives c_isLeft c_wentTimes c_goes c_isLeftLaid c_game c_rows c_columns c_isFound c_bestValue c_bestBelow c_bestShare c_share c_matrix c_system c_shares c_allShares)) 36 rfl dX10_endsNotes_35 rfl xk_in1_2 xk_j1 rfl ?_
  obtain rfl := Option.some.inj hf
  exact xV_vret hX dX10_endsNotes_36 (Nat.zero_le _) (Nat.zero_le _)
def F10_endsNotes_b2 (z : Nat) (w : Nat) (x1 : Int32) (c_notes : (Nat → Int32)) (c_seen : (Nat → Int32)) : Option ((Nat → Int32) × (Nat → Int32)) := match w with
  | 0 => none
  | w + 1 => if (256 : Int32) ≤ x1 then (F10_endsNotes_b22 z c_notes c_seen) else (xg (xin x1 256) (F10_endsNotes_b2 z w (x1 + (1 : Int32)) c_notes (upd c_seen (xn x1) (0 : Int32))))
theorem T10_endsNotes_b2 {X : xX} {c_thrown : Int32} {c_told : (Nat → Int32)} {c_read : (Nat → Int32)} {c_many : (Nat → Int32)} {c_eights : (Nat → Int32)} {c_gains : (Nat → Int32)} {c_turns : (Nat → Int32)} {c_drawn : (Nat → Int32)} {c_state : Int32} {c_tape : (Nat → Int32)} {c_taped : Int32} {c_size : Int32} {c_from : Int32} {c_next : Int32} {c_token : Int32} {c_value : Int32} {c_fault : Int32} {c_number : Int32} {c_fives : (Nat → Int32)} {c_isLeft : (Nat → Int32)} {c_wentTimes : Int32} {c_goes : (Nat → Int32)} {c_isLeftLaid : Int32} {c_game : (Nat → Int32)} {c_rows : Int32} {c_columns : Int32} {c_isFound : Int32} {c_bestValue : Int64} {c_bestBelow : Int64} {c_bestShare : (Nat → Int64)} {c_share : (Nat → Int64)} {c_matrix : (Nat → Int64)} {c_system : (Nat → Int64)} {c_shares : (Nat → Int32)} {c_allShares : Int32} {z : Nat} {v : (Nat → Int32) × (Nat → Int32)} (hX : xIs (j10_endsNotes) X none none (hM c_thrown c_told c_read c_many c_eights c_gains v.1 v.2 c_turns c_drawn c_state c_tape c_taped c_size c_from c_next c_token c_value c_fault c_number c_fives c_isLeft c_wentTimes c_goes c_isLeftLaid c_game c_rows c_columns c_isFound c_bestValue c_bestBelow c_bestShare c_share c_matrix c_system c_shares c_allShares)) : ∀ (w : Nat) {x1 : Int32} {c_notes : (Nat → Int32)} {c_seen : (Nat → Int32)}, F10_endsNotes_b2 z w x1 c_notes c_seen = some v → xV (j10_endsNotes) X 0 0 (hM c_thrown c_told c_read c_many c_eights c_gains c_notes c_seen c_turns c_drawn c_state c_tape c_taped c_size c_from c_next c_token c_value c_fault c_number c_fives c_isLeft c_wentTimes c_goes c_isLeftLaid c_game c_rows c_columns c_isFound c_bestValue c_bestBelow c_bestShare c_share c_matrix c_system c_shares c_allShares) 2 [(0, .ref 0), (1, .int x1)] [] := by
  intro w
  induction w with
  | zero => intro x1 c_notes c_seen hf; cases hf
  | succ w ih =>
    intro x1 c_notes c_seen hf
    unfold F10_endsNotes_b2 at hf
    refine xV_iload_n 3 rfl dX10_endsNotes_2 rfl 1 rfl ?_
    refine xV_sipush 6 rfl dX10_endsNotes_3 xk_s256 ?_
    refine xV_icmp_ge (tgt := 22) 9 rfl dX10_endsNotes_6 (by decide) (fun h6 => ?_) (fun h6 => ?_)
    · have hf := xif_t hf h6
      refine xV_sub [0] rfl ?_
      exact T10_endsNotes_b22 hX hf
    · have hf := xif_f hf h6
      refine xV_aload_n 10 rfl dX10_endsNotes_9 rfl 0 rfl ?_
      refine xV_get (v := .ref 7) 13 rfl dX10_endsNotes_10 f10_36 rfl rfl ?_
      refine xV_iload_n 14 rfl dX10_endsNotes_13 rfl 1 rfl ?_
      refine xV_iconst 15 rfl dX10_endsNotes_14 xk_i0 ?_
      obtain ⟨hg15, hf⟩ := xg_s hf
      refine xV_iastore (h' := (hM c_thrown c_told c_read c_many c_eights c_gains c_notes (upd c_seen (xn x1) (0 : Int32)) c_turns c_drawn c_state c_tape c_taped c_size c_from c_next c_token c_value c_fault c_number c_fives c_isLeft c_wentTimes c_goes c_isLeftLaid c_game c_rows c_columns c_isFound c_bestValue c_bestBelow c_bestShare c_share c_matrix c_system c_shares c_allShares)) 16 rfl dX10_endsNotes_15 rfl (xin_ok hg15) rfl rfl ?_
      refine xV_iinc (L' := [(1, .int (x1 + (1 : Int32))), (0, .ref 0)]) 19 rfl dX10_endsNotes_16 1 rfl (xk_inc xk_i1) (xlt rfl) rfl ?_
      refine xV_goto (tgt := 2) dX10_endsNotes_19 (by decide) ?_
      refine xV_sub [1, 0] rfl ?_
      exact ih hf
def F10_endsNotes (z : Nat) (c_notes : (Nat → Int32)) (c_seen : (Nat → Int32)) : Option ((Nat → Int32) × (Nat → Int32)) :=
  F10_endsNotes_b2 z z (0 : Int32) c_notes c_seen
theorem T10_endsNotes {X : xX} {z : Nat} {c_notes : (Nat → Int32)} {c_seen : (Nat → Int32)} {c_thrown : Int32} {c_told : (Nat → Int32)} {c_read : (Nat → Int32)} {c_many : (Nat → Int32)} {c_eights : (Nat → Int32)} {c_gains : (Nat → Int32)} {c_turns : (Nat → Int32)} {c_drawn : (Nat → Int32)} {c_state : Int32} {c_tape : (Nat → Int32)} {c_taped : Int32} {c_size : Int32} {c_from : Int32} {c_next : Int32} {c_token : Int32} {c_value : Int32} {c_fault : Int32} {c_number : Int32} {c_fives : (Nat → Int32)} {c_isLeft : (Nat → Int32)} {c_wentTimes : Int32} {c_goes : (Nat → Int32)} {c_isLeftLaid : Int32} {c_game : (Nat → Int32)} {c_rows : Int32} {c_columns : Int32} {c_isFound : Int32} {c_bestValue : Int64} {c_bestBelow : Int64} {c_bestShare : (Nat → Int64)} {c_share : (Nat → Int64)} {c_matrix : (Nat → Int64)} {c_system : (Nat → Int64)} {c_shares : (Nat → Int32)} {c_allShares : Int32} {v : (Nat → Int32) × (Nat → Int32)} (hX : xIs (j10_endsNotes) X none none (hM c_thrown c_told c_read c_many c_eights c_gains v.1 v.2 c_turns c_drawn c_state c_tape c_taped c_size c_from c_next c_token c_value c_fault c_number c_fives c_isLeft c_wentTimes c_goes c_isLeftLaid c_game c_rows c_columns c_isFound c_bestValue c_bestBelow c_bestShare c_share c_matrix c_system c_shares c_allShares)) (hf : F10_endsNotes z c_notes c_seen = some v) : xV (j10_endsNotes) X 0 0 (hM c_thrown c_told c_read c_many c_eights c_gains c_notes c_seen c_turns c_drawn c_state c_tape c_taped c_size c_from c_next c_token c_value c_fault c_number c_fives c_isLeft c_wentTimes c_goes c_isLeftLaid c_game c_rows c_columns c_isFound c_bestValue c_bestBelow c_bestShare c_share c_matrix c_system c_shares c_allShares) 0 [(0, .ref 0)] [] := by
  unfold F10_endsNotes at hf
  refine xV_iconst 1 rfl dX10_endsNotes_0 xk_i0 ?_
  refine xV_istore_n (L' := [(1, .int (0 : Int32)), (0, .ref 0)]) 2 rfl dX10_endsNotes_1 rfl (xlt rfl) rfl ?_
  refine xV_sub [1, 0] rfl ?_
  exact T10_endsNotes_b2 hX _ hf
theorem C10_endsNotes (l : Launch) {z : Nat} {c_notes : (Nat → Int32)} {c_seen : (Nat → Int32)} {c_thrown : Int32} {c_told : (Nat → Int32)} {c_read : (Nat → Int32)} {c_many : (Nat → Int32)} {c_eights : (Nat → Int32)} {c_gains : (Nat → Int32)} {c_turns : (Nat → Int32)} {c_drawn : (Nat → Int32)} {c_state : Int32} {c_tape : (Nat → Int32)} {c_taped : Int32} {c_size : Int32} {c_from : Int32} {c_next : Int32} {c_token : Int32} {c_value : Int32} {c_fault : Int32} {c_number : Int32} {c_fives : (Nat → Int32)} {c_isLeft : (Nat → Int32)} {c_wentTimes : Int32} {c_goes : (Nat → Int32)} {c_isLeftLaid : Int32} {c_game : (Nat → Int32)} {c_rows : Int32} {c_columns : Int32} {c_isFound : Int32} {c_bestValue : Int64} {c_bestBelow : Int64} {c_bestShare : (Nat → Int64)} {c_share : (Nat → Int64)} {c_matrix : (Nat → Int64)} {c_system : (Nat → Int64)} {c_shares : (Nat → Int32)} {c_allShares : Int32} {v : (Nat → Int32) × (Nat → Int32)} (hf : F10_endsNotes z c_notes c_seen = some v) : xCt l yX10_endsNotes none j10_endsNotes [.ref 0] (hM c_thrown c_told c_read c_many c_eights c_gains c_notes c_seen c_turns c_drawn c_state c_tape c_taped c_size c_from c_next c_token c_value c_fault c_number c_fives c_isLeft c_wentTimes c_goes c_isLeftLaid c_game c_rows c_columns c_isFound c_bestValue c_bestBelow c_bestShare c_share c_matrix c_system c_shares c_allShares) none (hM c_thrown c_told c_read c_many c_eights c_gains v.1 v.2 c_turns c_drawn c_state c_tape c_taped c_size c_from c_next c_token c_value c_fault c_number c_fives c_isLeft c_wentTimes c_goes c_isLeftLaid c_game c_rows c_columns c_isFound c_bestValue c_bestBelow c_bestShare c_share c_matrix c_system c_shares c_allShares) := xCt_of (by decide) rfl (Nat.le_of_ble_eq_true rfl) (fun _ hX => T10_endsNotes hX hf)
theorem m10_endsNotes : xMd yX10_endsNotes RX10 none j10_endsNotes 0 := ⟨List.mem_of_getElem? (i := 496) (by decide +kernel), List.mem_of_getElem? (i := 5) (by decide +kernel), rfl, by decide +kernel⟩
theorem v10_endsNotes : xMv yX10_endsNotes RX10 := ⟨List.mem_of_getElem? (i := 494) (by decide +kernel), List.mem_of_getElem? (i := 495) (by decide +kernel)⟩
theorem f10_39 : xFl RX10 39 10 8 := ⟨_, rfl, by decide, List.mem_of_getElem? (i := 129) (by decide +kernel)⟩
theorem f10_42 : xFl RX10 42 10 9 := ⟨_, rfl, by decide, List.mem_of_getElem? (i := 130) (by decide +kernel)⟩
theorem dX10_beginsTurns_0 : decode cX10_beginsTurns 0 = .ok (.aload_n 0, 1) := by decide +kernel
theorem dX10_beginsTurns_1 : decode cX10_beginsTurns 1 = .ok (.getfield 39, 3) := by decide +kernel
theorem dX10_beginsTurns_4 : decode cX10_beginsTurns 4 = .ok (.iload_n 1, 1) := by decide +kernel
theorem dX10_beginsTurns_5 : decode cX10_beginsTurns 5 = .ok (.iconst 0, 1) := by decide +kernel
theorem dX10_beginsTurns_6 : decode cX10_beginsTurns 6 = .ok (.iastore, 1) := by decide +kernel
theorem dX10_beginsTurns_7 : decode cX10_beginsTurns 7 = .ok (.iconst 0, 1) := by decide +kernel
theorem dX10_beginsTurns_8 : decode cX10_beginsTurns 8 = .ok (.istore_n 2, 1) := by decide +kernel
theorem dX10_beginsTurns_9 : decode cX10_beginsTurns 9 = .ok (.iload_n 2, 1) := by decide +kernel
theorem dX10_beginsTurns_10 : decode cX10_beginsTurns 10 = .ok (.bipush 8, 2) := by decide +kernel
theorem dX10_beginsTurns_12 : decode cX10_beginsTurns 12 = .ok (.if_icmp .ge 21, 3) := by decide +kernel
theorem dX10_beginsTurns_15 : decode cX10_beginsTurns 15 = .ok (.aload_n 0, 1) := by decide +kernel
theorem dX10_beginsTurns_16 : decode cX10_beginsTurns 16 = .ok (.getfield 42, 3) := by decide +kernel
theorem dX10_beginsTurns_19 : decode cX10_beginsTurns 19 = .ok (.bipush 8, 2) := by decide +kernel
theorem dX10_beginsTurns_21 : decode cX10_beginsTurns 21 = .ok (.iload_n 1, 1) := by decide +kernel
theorem dX10_beginsTurns_22 : decode cX10_beginsTurns 22 = .ok (.imul, 1) := by decide +kernel
theorem dX10_beginsTurns_23 : decode cX10_beginsTurns 23 = .ok (.iload_n 2, 1) := by decide +kernel
theorem dX10_beginsTurns_24 : decode cX10_beginsTurns 24 = .ok (.iadd, 1) := by decide +kernel
theorem dX10_beginsTurns_25 : decode cX10_beginsTurns 25 = .ok (.iconst 0, 1) := by decide +kernel
theorem dX10_beginsTurns_26 : decode cX10_beginsTurns 26 = .ok (.iastore, 1) := by decide +kernel
theorem dX10_beginsTurns_27 : decode cX10_beginsTurns 27 = .ok (.iinc 2 1, 3) := by decide +kernel
theorem dX10_beginsTurns_30 : decode cX10_beginsTurns 30 = .ok (.goto (-21), 3) := by decide +kernel
theorem dX10_beginsTurns_33 : decode cX10_beginsTurns 33 = .ok (.return_, 1) := by decide +kernel
abbrev j10_beginsTurns : xJ := (cX10_beginsTurns, 3, RX10, 1, 0, 0)
def F10_beginsTurns_b9 (z : Nat) (w : Nat) (x1 : Int32) (x2 : Int32) (c_turns : (Nat → Int32)) (c_drawn : (Nat → Int32)) : Option ((Nat → Int32) × (Nat → Int32)) := match w with
  | 0 => none
  | w + 1 => if (8 : Int32) ≤ x2 then (some (c_turns, c_drawn)) else (xg (xin (((8 : Int32) * x1) + x2) 16) (F10_beginsTurns_b9 z w x1 (x2 + (1 : Int32)) c_turns (upd c_drawn (xn (((8 : Int32) * x1) + x2)) (0 : Int32))))
theorem T10_beginsTurns_b9 {X : xX} {c_thrown : Int32} {c_told : (Nat → Int32)} {c_read : (Nat → Int32)} {c_many : (Nat → Int32)} {c_eights : (Nat → Int32)} {c_gains : (Nat → Int32)} {c_notes : (Nat → Int32)} {c_seen : (Nat → Int32)} {c_state : Int32} {c_tape : (Nat → Int32)} {c_taped : Int32} {c_size : Int32} {c_from : Int32} {c_next : Int32} {c_token : Int32} {c_value : Int32} {c_fault : Int32} {c_number : Int32} {c_fives : (Nat → Int32)} {c_isLeft : (Nat → Int32)} {c_wentTimes : Int32} {c_goes : (Nat → Int32)} {c_isLeftLaid : Int32} {c_game : (Nat → Int32)} {c_rows : Int32} {c_columns : Int32} {c_isFound : Int32} {c_bestValue : Int64} {c_bestBelow : Int64} {c_bestShare : (Nat → Int64)} {c_share : (Nat → Int64)} {c_matrix : (Nat → Int64)} {c_system : (Nat → Int64)} {c_shares : (Nat → Int32)} {c_allShares : Int32} {z : Nat} {v : (Nat → Int32) × (Nat → Int32)} (hX : xIs (j10_beginsTurns) X none none (hM c_thrown c_told c_read c_many c_eights c_gains c_notes c_seen v.1 v.2 c_state c_tape c_taped c_size c_from c_next c_token c_value c_fault c_number c_fives c_isLeft c_wentTimes c_goes c_isLeftLaid c_game c_rows c_columns c_isFound c_bestValue c_bestBelow c_bestShare c_share c_matrix c_system c_shares c_allShares)) : ∀ (w : Nat) {x1 : Int32} {x2 : Int32} {c_turns : (Nat → Int32)} {c_drawn : (Nat → Int32)}, F10_beginsTurns_b9 z w x1 x2 c_turns c_drawn = some v → xV (j10_beginsTurns) X 0 0 (hM c_thrown c_told c_read c_many c_eights c_gains c_notes c_seen c_turns c_drawn c_state c_tape c_taped c_size c_from c_next c_token c_value c_fault c_number c_fives c_isLeft c_wentTimes c_goes c_isLeftLaid c_game c_rows c_columns c_isFound c_bestValue c_bestBelow c_bestShare c_share c_matrix c_system c_shares c_allShares) 9 [(0, .ref 0), (1, .int x1), (2, .int x2)] [] := by
  intro w
  induction w with
  | zero => intro x1 x2 c_turns c_drawn hf; cases hf
  | succ w ih =>
    intro x1 x2 c_turns c_drawn hf
    unfold F10_beginsTurns_b9 at hf
    refine xV_iload_n 10 rfl dX10_beginsTurns_9 rfl 2 rfl ?_
    refine xV_bipush 12 rfl dX10_beginsTurns_10 xk_b8 ?_
    refine xV_icmp_ge (tgt := 33) 15 rfl dX10_beginsTurns_12 (by decide) (fun h12 => ?_) (fun h12 => ?_)
    · have hf := xif_t hf h12
      obtain rfl := Option.some.inj hf
      exact xV_vret hX dX10_beginsTurns_33 (Nat.zero_le _) (Nat.zero_le _)
    · have hf := xif_f hf h12
      refine xV_aload_n 16 rfl dX10_beginsTurns_15 rfl 0 rfl ?_
      refine xV_get (v := .ref 9) 19 rfl dX10_beginsTurns_16 f10_42 rfl rfl ?_
      refine xV_bipush 21 rfl dX10_beginsTurns_19 xk_b8 ?_
      refine xV_iload_n 22 rfl dX10_beginsTurns_21 rfl 1 rfl ?_
      refine xV_imul 23 rfl dX10_beginsTurns_22 ?_
      refine xV_iload_n 24 rfl dX10_beginsTurns_23 rfl 2 rfl ?_
      refine xV_iadd 25 rfl dX10_beginsTurns_24 ?_
      refine xV_iconst 26 rfl dX10_beginsTurns_25 xk_i0 ?_
      obtain ⟨hg26, hf⟩ := xg_s hf
      refine xV_iastore (h' := (hM c_thrown c_told c_read c_many c_eights c_gains c_notes c_seen c_turns (upd c_drawn (xn (((8 : Int32) * x1) + x2)) (0 : Int32)) c_state c_tape c_taped c_size c_from c_next c_token c_value c_fault c_number c_fives c_isLeft c_wentTimes c_goes c_isLeftLaid c_game c_rows c_columns c_isFound c_bestValue c_bestBelow c_bestShare c_share c_matrix c_system c_shares c_allShares)) 27 rfl dX10_beginsTurns_26 rfl (xin_ok hg26) rfl rfl ?_
      refine xV_iinc (L' := [(2, .int (x2 + (1 : Int32))), (0, .ref 0), (1, .int x1)]) 30 rfl dX10_beginsTurns_27 2 rfl (xk_inc xk_i1) (xlt rfl) rfl ?_
      refine xV_goto (tgt := 9) dX10_beginsTurns_30 (by decide) ?_
      refine xV_sub [1, 2, 0] rfl ?_
      exact ih hf
def F10_beginsTurns (z : Nat) (x1 : Int32) (c_turns : (Nat → Int32)) (c_drawn : (Nat → Int32)) : Option ((Nat → Int32) × (Nat → Int32)) :=
  xg (xin x1 2) (F10_beginsTurns_b9 z z x1 (0 : Int32) (upd c_turns (xn x1) (0 : Int32)) c_drawn)
theorem T10_beginsTurns {X : xX} {z : Nat} {x1 : Int32} {c_turns : (Nat → Int32)} {c_drawn : (Nat → Int32)} {c_thrown : Int32} {c_told : (Nat → Int32)} {c_read : (Nat → Int32)} {c_many : (Nat → Int32)} {c_eights : (Nat → Int32)} {c_gains : (Nat → Int32)} {c_notes : (Nat → Int32)} {c_seen : (Nat → Int32)} {c_state : Int32} {c_tape : (Nat → Int32)} {c_taped : Int32} {c_size : Int32} {c_from : Int32} {c_next : Int32} {c_token : Int32} {c_value : Int32} {c_fault : Int32} {c_number : Int32} {c_fives : (Nat → Int32)} {c_isLeft : (Nat → Int32)} {c_wentTimes : Int32} {c_goes : (Nat → Int32)} {c_isLeftLaid : Int32} {c_game : (Nat → Int32)} {c_rows : Int32} {c_columns : Int32} {c_isFound : Int32} {c_bestValue : Int64} {c_bestBelow : Int64} {c_bestShare : (Nat → Int64)} {c_share : (Nat → Int64)} {c_matrix : (Nat → Int64)} {c_system : (Nat → Int64)} {c_shares : (Nat → Int32)} {c_allShares : Int32} {v : (Nat → Int32) × (Nat → Int32)} (hX : xIs (j10_beginsTurns) X none none (hM c_thrown c_told c_read c_many c_eights c_gains c_notes c_seen v.1 v.2 c_state c_tape c_taped c_size c_from c_next c_token c_value c_fault c_number c_fives c_isLeft c_wentTimes c_goes c_isLeftLaid c_game c_rows c_columns c_isFound c_bestValue c_bestBelow c_bestShare c_share c_matrix c_system c_shares c_allShares)) (hf : F10_beginsTurns z x1 c_turns c_drawn = some v) : xV (j10_beginsTurns) X 0 0 (hM c_thrown c_told c_read c_many c_eights c_gains c_notes c_seen c_turns c_drawn c_state c_tape c_taped c_size c_from c_next c_token c_value c_fault c_number c_fives c_isLeft c_wentTimes c_goes c_isLeftLaid c_game c_rows c_columns c_isFound c_bestValue c_bestBelow c_bestShare c_share c_matrix c_system c_shares c_allShares) 0 [(0, .ref 0), (1, .int x1)] [] := by
  unfold F10_beginsTurns at hf
  refine xV_aload_n 1 rfl dX10_beginsTurns_0 rfl 0 rfl ?_
  refine xV_get (v := .ref 8) 4 rfl dX10_beginsTurns_1 f10_39 rfl rfl ?_
  refine xV_iload_n 5 rfl dX10_beginsTurns_4 rfl 1 rfl ?_
  refine xV_iconst 6 rfl dX10_beginsTurns_5 xk_i0 ?_
  obtain ⟨hg6, hf⟩ := xg_s hf
  refine xV_iastore (h' := (hM c_thrown c_told c_read c_many c_eights c_gains c_notes c_seen (upd c_turns (xn x1) (0 : Int32)) c_drawn c_state c_tape c_taped c_size c_from c_next c_token c_value c_fault c_number c_fives c_isLeft c_wentTimes c_goes c_isLeftLaid c_game c_rows c_columns c_isFound c_bestValue c_bestBelow c_bestShare c_share c_matrix c_system c_shares c_allShares)) 7 rfl dX10_beginsTurns_6 rfl (xin_ok hg6) rfl rfl ?_
  refine xV_iconst 8 rfl dX10_beginsTurns_7 xk_i0 ?_
  refine xV_istore_n (L' := [(2, .int (0 : Int32)), (0, .ref 0), (1, .int x1)]) 9 rfl dX10_beginsTurns_8 rfl (xlt rfl) rfl ?_
  refine xV_sub [1, 2, 0] rfl ?_
  exact T10_beginsTurns_b9 hX _ hf
theorem C10_beginsTurns (l : Launch) {z : Nat} {x1 : Int32} {c_turns : (Nat → Int32)} {c_drawn : (Nat → Int32)} {c_thrown : Int32} {c_told : (Nat → Int32)} {c_read : (Nat → Int32)} {c_many : (Nat → Int32)} {c_eights : (Nat → Int32)} {c_gains : (Nat → Int32)} {c_notes : (Nat → Int32)} {c_seen : (Nat → Int32)} {c_state : Int32} {c_tape : (Nat → Int32)} {c_taped : Int32} {c_size : Int32} {c_from : Int32} {c_next : Int32} {c_token : Int32} {c_value : Int32} {c_fault : Int32} {c_number : Int32} {c_fives : (Nat → Int32)} {c_isLeft : (Nat → Int32)} {c_wentTimes : Int32} {c_goes : (Nat → Int32)} {c_isLeftLaid : Int32} {c_game : (Nat → Int32)} {c_rows : Int32} {c_columns : Int32} {c_isFound : Int32} {c_bestValue : Int64} {c_bestBelow : Int64} {c_bestShare : (Nat → Int64)} {c_share : (Nat → Int64)} {c_matrix : (Nat → Int64)} {c_system : (Nat → Int64)} {c_shares : (Nat → Int32)} {c_allShares : Int32} {v : (Nat → Int32) × (Nat → Int32)} (hf : F10_beginsTurns z x1 c_turns c_drawn = some v) : xCt l yX10_beginsTurns none j10_beginsTurns [.ref 0, .int x1] (hM c_thrown c_told c_read c_many c_eights c_gains c_notes c_seen c_turns c_drawn c_state c_tape c_taped c_size c_from c_next c_token c_value c_fault c_number c_fives c_isLeft c_wentTimes c_goes c_isLeftLaid c_game c_rows c_columns c_isFound c_bestValue c_bestBelow c_bestShare c_share c_matrix c_system c_shares c_allShares) none (hM c_thrown c_told c_read c_many c_eights c_gains c_notes c_seen v.1 v.2 c_state c_tape c_taped c_size c_from c_next c_token c_value c_fault c_number c_fives c_isLeft c_wentTimes c_goes c_isLeftLaid c_game c_rows c_columns c_isFound c_bestValue c_bestBelow c_bestShare c_share c_matrix c_system c_shares c_allShares) := xCt_of (by decide) rfl (Nat.le_of_ble_eq_true rfl) (fun _ hX => T10_beginsTurns hX hf)
theorem m10_beginsTurns : xMd yX10_beginsTurns RX10 none j10_beginsTurns 1 := ⟨List.mem_of_getElem? (i := 500) (by decide +kernel), List.mem_of_getElem? (i := 5) (by decide +kernel), rfl, by decide +kernel⟩
theorem v10_beginsTurns : xMv yX10_beginsTurns RX10 := ⟨List.mem_of_getElem? (i := 498) (by decide +kernel), List.mem_of_getElem? (i := 499) (by decide +kernel)⟩
theorem k10_109 : Cond.methodLink RX10 109 yX10_at ∈ wsL_law0 := List.mem_of_getElem? (i := 453) (by decide +kernel)
theorem dX10_endsBooks_0 : decode cX10_endsBooks 0 = .ok (.iconst 0, 1) := by decide +kernel
theorem dX10_endsBooks_1 : decode cX10_endsBooks 1 = .ok (.istore_n 1, 1) := by decide +kernel
theorem dX10_endsBooks_2 : decode cX10_endsBooks 2 = .ok (.iload_n 1, 1) := by decide +kernel
theorem dX10_endsBooks_3 : decode cX10_endsBooks 3 = .ok (.iconst 2, 1) := by decide +kernel
theorem dX10_endsBooks_4 : decode cX10_endsBooks 4 = .ok (.if_icmp .ge 26, 3) := by decide +kernel
theorem dX10_endsBooks_7 : decode cX10_endsBooks 7 = .ok (.aload_n 0, 1) := by decide +kernel
theorem dX10_endsBooks_8 : decode cX10_endsBooks 8 = .ok (.iload_n 1, 1) := by decide +kernel
theorem dX10_endsBooks_9 : decode cX10_endsBooks 9 = .ok (.iconst 0, 1) := by decide +kernel
theorem dX10_endsBooks_10 : decode cX10_endsBooks 10 = .ok (.invokestatic 109, 3) := by decide +kernel
theorem dX10_endsBooks_13 : decode cX10_endsBooks 13 = .ok (.iconst 0, 1) := by decide +kernel
theorem dX10_endsBooks_14 : decode cX10_endsBooks 14 = .ok (.iastore, 1) := by decide +kernel
theorem dX10_endsBooks_15 : decode cX10_endsBooks 15 = .ok (.aload_n 0, 1) := by decide +kernel
theorem dX10_endsBooks_16 : decode cX10_endsBooks 16 = .ok (.iload_n 1, 1) := by decide +kernel
theorem dX10_endsBooks_17 : decode cX10_endsBooks 17 = .ok (.bipush 7, 2) := by decide +kernel
theorem dX10_endsBooks_19 : decode cX10_endsBooks 19 = .ok (.invokestatic 109, 3) := by decide +kernel
theorem dX10_endsBooks_22 : decode cX10_endsBooks 22 = .ok (.iconst 0, 1) := by decide +kernel
theorem dX10_endsBooks_23 : decode cX10_endsBooks 23 = .ok (.iastore, 1) := by decide +kernel
theorem dX10_endsBooks_24 : decode cX10_endsBooks 24 = .ok (.iinc 1 1, 3) := by decide +kernel
theorem dX10_endsBooks_27 : decode cX10_endsBooks 27 = .ok (.goto (-25), 3) := by decide +kernel
theorem dX10_endsBooks_30 : decode cX10_endsBooks 30 = .ok (.return_, 1) := by decide +kernel
abbrev j10_endsBooks : xJ := (cX10_endsBooks, 2, RX10, 2, 0, 0)
def F10_endsBooks_b2 (z : Nat) (w : Nat) (x1 : Int32) (c_of : (Nat → Int32)) : Option ((Nat → Int32)) := match w with
  | 0 => none
  | w + 1 => if (2 : Int32) ≤ x1 then (some (c_of)) else ((F10_at x1 (0 : Int32)).bind (fun v10 => xg (xin v10 56) ((F10_at x1 (7 : Int32)).bind (fun v19 => xg (xin v19 56) (F10_endsBooks_b2 z w (x1 + (1 : Int32)) (upd (upd c_of (xn v10) (0 : Int32)) (xn v19) (0 : Int32)))))))
theorem T10_endsBooks_b2 {X : xX}  {z : Nat} {v : (Nat → Int32)} (hX : xIs (j10_endsBooks) X none none (hA v)) : ∀ (w : Nat) {x1 : Int32} {c_of : (Nat → Int32)}, F10_endsBooks_b2 z w x1 c_of = some v → xV (j10_endsBooks) X 0 0 (hA c_of) 2 [(0, .ref 0), (1, .int x1)] [] := by
  intro w
  induction w with
  | zero => intro x1 c_of hf; cases hf
  | succ w ih =>
    intro x1 c_of hf
    unfold F10_endsBooks_b2 at hf
    refine xV_iload_n 3 rfl dX10_endsBooks_2 rfl 1 rfl ?_
    refine xV_iconst 4 rfl dX10_endsBooks_3 xk_i2 ?_
    refine xV_icmp_ge (tgt := 30) 7 rfl dX10_endsBooks_4 (by decide) (fun h4 => ?_) (fun h4 => ?_)
    · have hf := xif_t hf h4
      obtain rfl := Option.some.inj hf
      exact xV_vret hX dX10_endsBooks_30 (Nat.zero_le _) (Nat.zero_le _)
    · have hf := xif_f hf h4
      refine xV_aload_n 8 rfl dX10_endsBooks_7 rfl 0 rfl ?_
      refine xV_iload_n 9 rfl dX10_endsBooks_8 rfl 1 rfl ?_
      refine xV_iconst 10 rfl dX10_endsBooks_9 xk_i0 ?_
      obtain ⟨v10, hv10, hf⟩ := xb_s hf
      refine xV_st0 (rest := [.ref 0]) 13 rfl dX10_endsBooks_10 rfl (C10_at X.1.2.1 hv10) m10_at s10_at k10_109 rfl (Nat.le_of_ble_eq_true rfl) (Nat.le_of_ble_eq_true rfl) (Nat.le_of_ble_eq_true rfl) ⟨Nat.le_refl _, Nat.le_refl _⟩ ?_
      show xV (j10_endsBooks) X 0 0 (hA c_of) 13 [(0, .ref 0), (1, .int x1)] [.int v10, .ref 0]
      refine xV_iconst 14 rfl dX10_endsBooks_13 xk_i0 ?_
      obtain ⟨hg14, hf⟩ := xg_s hf
      refine xV_iastore (h' := (hA (upd c_of (xn v10) (0 : Int32)))) 15 rfl dX10_endsBooks_14 rfl (xin_ok hg14) rfl rfl ?_
      refine xV_aload_n 16 rfl dX10_endsBooks_15 rfl 0 rfl ?_
      refine xV_iload_n 17 rfl dX10_endsBooks_16 rfl 1 rfl ?_
      refine xV_bipush 19 rfl dX10_endsBooks_17 xk_b7 ?_
      obtain ⟨v19, hv19, hf⟩ := xb_s hf
      refine xV_st0 (rest := [.ref 0]) 22 rfl dX10_endsBooks_19 rfl (C10_at X.1.2.1 hv19) m10_at s10_at k10_109 rfl (Nat.le_of_ble_eq_true rfl) (Nat.le_of_ble_eq_true rfl) (Nat.le_of_ble_eq_true rfl) ⟨Nat.le_refl _, Nat.le_refl _⟩ ?_
      show xV (j10_endsBooks) X 0 0 (hA (upd c_of (xn v10) (0 : Int32))) 22 [(0, .ref 0), (1, .int x1)] [.int v19, .ref 0]
      refine xV_iconst 23 rfl dX10_endsBooks_22 xk_i0 ?_
      obtain ⟨hg23, hf⟩ := xg_s hf
      refine xV_iastore (h' := (hA (upd (upd c_of (xn v10) (0 : Int32)) (xn v19) (0 : Int32)))) 24 rfl dX10_endsBooks_23 rfl (xin_ok hg23) rfl rfl ?_
      refine xV_iinc (L' := [(1, .int (x1 + (1 : Int32))), (0, .ref 0)]) 27 rfl dX10_endsBooks_24 1 rfl (xk_inc xk_i1) (xlt rfl) rfl ?_
      refine xV_goto (tgt := 2) dX10_endsBooks_27 (by decide) ?_
      refine xV_sub [1, 0] rfl ?_
      exact ih hf
def F10_endsBooks (z : Nat) (c_of : (Nat → Int32)) : Option ((Nat → Int32)) :=
  F10_endsBooks_b2 z z (0 : Int32) c_of
theorem T10_endsBooks {X : xX} {z : Nat} {c_of : (Nat → Int32)}  {v : (Nat → Int32)} (hX : xIs (j10_endsBooks) X none none (hA v)) (hf : F10_endsBooks z c_of = some v) : xV (j10_endsBooks) X 0 0 (hA c_of) 0 [(0, .ref 0)] [] := by
  unfold F10_endsBooks at hf
  refine xV_iconst 1 rfl dX10_endsBooks_0 xk_i0 ?_
  refine xV_istore_n (L' := [(1, .int (0 : Int32)), (0, .ref 0)]) 2 rfl dX10_endsBooks_1 rfl (xlt rfl) rfl ?_
  refine xV_sub [1, 0] rfl ?_
  exact T10_endsBooks_b2 hX _ hf
theorem C10_endsBooks (l : Launch) {z : Nat} {c_of : (Nat → Int32)}  {v : (Nat → Int32)} (hf : F10_endsBooks z c_of = some v) : xCt l yX10_endsBooks none j10_endsBooks [.ref 0] (hA c_of) none (hA v) := xCt_of (by decide) rfl (Nat.le_of_ble_eq_true rfl) (fun _ hX => T10_endsBooks hX hf)
theorem m10_endsBooks : xMd yX10_endsBooks RX10 none j10_endsBooks 1 := ⟨List.mem_of_getElem? (i := 452) (by decide +kernel), List.mem_of_getElem? (i := 5) (by decide +kernel), rfl, by decide +kernel⟩
theorem s10_endsBooks : Cond.static yX10_endsBooks ∈ wsL_law0 := List.mem_of_getElem? (i := 451) (by decide +kernel)
theorem k10_112 : Cond.methodLink RX10 112 yX10_endsBooks ∈ wsL_law0 := List.mem_of_getElem? (i := 450) (by decide +kernel)
theorem k10_116 : Cond.methodLink RX10 116 yX10_endsNotes ∈ wsL_law0 := List.mem_of_getElem? (i := 493) (by decide +kernel)
theorem k10_119 : Cond.methodLink RX10 119 yX10_beginsTurns ∈ wsL_law0 := List.mem_of_getElem? (i := 497) (by decide +kernel)
theorem k10_79 : Cond.methodLink RX10 79 yX10_lays ∈ wsL_law0 := List.mem_of_getElem? (i := 144) (by decide +kernel)
theorem dX10_begins_0 : decode cX10_begins 0 = .ok (.aload_n 0, 1) := by decide +kernel
theorem dX10_begins_1 : decode cX10_begins 1 = .ok (.getfield 17, 3) := by decide +kernel
theorem dX10_begins_4 : decode cX10_begins 4 = .ok (.invokestatic 112, 3) := by decide +kernel
theorem dX10_begins_7 : decode cX10_begins 7 = .ok (.aload_n 0, 1) := by decide +kernel
theorem dX10_begins_8 : decode cX10_begins 8 = .ok (.invokevirtual 116, 3) := by decide +kernel
theorem dX10_begins_11 : decode cX10_begins 11 = .ok (.aload_n 0, 1) := by decide +kernel
theorem dX10_begins_12 : decode cX10_begins 12 = .ok (.iconst 0, 1) := by decide +kernel
theorem dX10_begins_13 : decode cX10_begins 13 = .ok (.invokevirtual 119, 3) := by decide +kernel
theorem dX10_begins_16 : decode cX10_begins 16 = .ok (.aload_n 0, 1) := by decide +kernel
theorem dX10_begins_17 : decode cX10_begins 17 = .ok (.iconst 1, 1) := by decide +kernel
theorem dX10_begins_18 : decode cX10_begins 18 = .ok (.invokevirtual 119, 3) := by decide +kernel
theorem dX10_begins_21 : decode cX10_begins 21 = .ok (.aload_n 0, 1) := by decide +kernel
theorem dX10_begins_22 : decode cX10_begins 22 = .ok (.invokevirtual 79, 3) := by decide +kernel
theorem dX10_begins_25 : decode cX10_begins 25 = .ok (.return_, 1) := by decide +kernel
abbrev j10_begins : xJ := (cX10_begins, 1, RX10, 10, 0, 0)
def F10_begins (z : Nat) (c_told : (Nat → Int32)) (c_many : (Nat → Int32)) (c_eights : (Nat → Int32)) (c_gains : (Nat → Int32)) (c_notes : (Nat → Int32)) (c_seen : (Nat → Int32)) (c_turns : (Nat → Int32)) (c_drawn : (Nat → Int32)) (c_isLeftLaid : Int32) : Option ((Nat → Int32) × (Nat → Int32) × (Nat → Int32) × (Nat → Int32) × (Nat → Int32) × (Nat → Int32) × (Nat → Int32) × (Nat → Int32) × Int32) :=
  (F10_endsBooks z c_told).bind (fun v4 => (F10_endsNotes z c_notes c_seen).bind (fun v8 => (F10_beginsTurns z (0 : Int32) c_turns c_drawn).bind (fun v13 => (F10_beginsTurns z (1 : Int32) v13.1 v13.2).bind (fun v18 => (F10_lays z v4 c_many c_eights c_gains c_isLeftLaid).bind (fun v22 => some (v4, v22.1, v22.2.1, v22.2.2.1, v8.1, v8.2, v18.1, v18.2, v22.2.2.2))))))
theorem T10_begins {X : xX} {z : Nat} {c_told : (Nat → Int32)} {c_many : (Nat → Int32)} {c_eights : (Nat → Int32)} {c_gains : (Nat → Int32)} {c_notes : (Nat → Int32)} {c_seen : (Nat → Int32)} {c_turns : (Nat → Int32)} {c_drawn : (Nat → Int32)} {c_isLeftLaid : Int32} {c_thrown : Int32} {c_read : (Nat → Int32)} {c_state : Int32} {c_tape : (Nat → Int32)} {c_taped : Int32} {c_size : Int32} {c_from : Int32} {c_next : Int32} {c_token : Int32} {c_value : Int32} {c_fault : Int32} {c_number : Int32} {c_fives : (Nat → Int32)} {c_isLeft : (Nat → Int32)} {c_wentTimes : Int32} {c_goes : (Nat → Int32)} {c_game : (Nat → Int32)} {c_rows : Int32} {c_columns : Int32} {c_isFound : Int32} {c_bestValue : Int64} {c_bestBelow : Int64} {c_bestShare : (Nat → Int64)} {c_share : (Nat → Int64)} {c_matrix : (Nat → Int64)} {c_system : (Nat → Int64)} {c_shares : (Nat → Int32)} {c_allShares : Int32} {v : (Nat → Int32) × (Nat → Int32) × (Nat → Int32) × (Nat → Int32) × (Nat → Int32) × (Nat → Int32) × (Nat → Int32) × (Nat → Int32) × Int32} (hX : xIs (j10_begins) X none none (hM c_thrown v.1 c_read v.2.1 v.2.2.1 v.2.2.2.1 v.2.2.2.2.1 v.2.2.2.2.2.1 v.2.2.2.2.2.2.1 v.2.2.2.2.2.2.2.1 c_state c_tape c_taped c_size c_from c_next c_token c_value c_fault c_number c_fives c_isLeft c_wentTimes c_goes v.2.2.2.2.2.2.2.2 c_game c_rows c_columns c_isFound c_bestValue c_bestBelow c_bestShare c_share c_matrix c_system c_shares c_allShares)) (hf : F10_begins z c_told c_many c_eights c_gains c_notes c_seen c_turns c_drawn c_isLeftLaid = some v) : xV (j10_begins) X 0 0 (hM c_thrown c_told c_read c_many c_eights c_gains c_notes c_seen c_turns c_drawn c_state c_tape c_taped c_size c_from c_next c_token c_value c_fault c_number c_fives c_isLeft c_wentTimes c_goes c_isLeftLaid c_game c_rows c_columns c_isFound c_bestValue c_bestBelow c_bestShare c_share c_matrix c_system c_shares c_allShares) 0 [(0, .ref 0)] [] := by
  unfold F10_begins at hf
  refine xV_aload_n 1 rfl dX10_begins_0 rfl 0 rfl ?_
  refine xV_get (v := .ref 1) 4 rfl dX10_begins_1 f10_17 rfl rfl ?_
  obtain ⟨v4, hv4, hf⟩ := xb_s hf
  refine xV_st1 (h' := (hM c_thrown v4 c_read c_many c_eights c_gains c_notes c_seen c_turns c_drawn c_state c_tape c_taped c_size c_from c_next c_token c_value c_fault c_number c_fives c_isLeft c_wentTimes c_goes c_isLeftLaid c_game c_rows c_columns c_isFound c_bestValue c_bestBelow c_bestShare c_share c_matrix c_system c_shares c_allShares)) (rest := []) 7 rfl dX10_begins_4 rfl (C10_endsBooks X.1.2.1 hv4) m10_endsBooks s10_endsBooks k10_112 rfl rfl rfl rfl rfl rfl (Nat.le_of_ble_eq_true rfl) (Nat.le_of_ble_eq_true rfl) (Nat.le_of_ble_eq_true rfl) ⟨Nat.le_refl _, Nat.le_refl _⟩ ?_
  show xV (j10_begins) X 0 0 (hM c_thrown v4 c_read c_many c_eights c_gains c_notes c_seen c_turns c_drawn c_state c_tape c_taped c_size c_from c_next c_token c_value c_fault c_number c_fives c_isLeft c_wentTimes c_goes c_isLeftLaid c_game c_rows c_columns c_isFound c_bestValue c_bestBelow c_bestShare c_share c_matrix c_system c_shares c_allShares) 7 [(0, .ref 0)] []
  refine xV_aload_n 8 rfl dX10_begins_7 rfl 0 rfl ?_
  obtain ⟨v8, hv8, hf⟩ := xb_s hf
  refine xV_same (rest := []) 11 rfl dX10_begins_8 rfl (C10_endsNotes X.1.2.1 hv8) m10_endsNotes v10_endsNotes k10_116 rfl rfl rfl rfl rfl (Nat.le_of_ble_eq_true rfl) (Nat.le_of_ble_eq_true rfl) (Nat.le_of_ble_eq_true rfl) ⟨Nat.le_refl _, Nat.le_refl _⟩ ?_
  show xV (j10_begins) X 0 0 (hM c_thrown v4 c_read c_many c_eights c_gains v8.1 v8.2 c_turns c_drawn c_state c_tape c_taped c_size c_from c_next c_token c_value c_fault c_number c_fives c_isLeft c_wentTimes c_goes c_isLeftLaid c_game c_rows c_columns c_isFound c_bestValue c_bestBelow c_bestShare c_share c_matrix c_system c_shares c_allShares) 11 [(0, .ref 0)] []
  refine xV_aload_n 12 rfl dX10_begins_11 rfl 0 rfl ?_
  refine xV_iconst 13 rfl dX10_begins_12 xk_i0 ?_
  obtain ⟨v13, hv13, hf⟩ := xb_s hf
  refine xV_same (rest := []) 16 rfl dX10_begins_13 rfl (C10_beginsTurns X.1.2.1 hv13) m10_beginsTurns v10_beginsTurns k10_119 rfl rfl rfl rfl rfl (Nat.le_of_ble_eq_true rfl) (Nat.le_of_ble_eq_true rfl) (Nat.le_of_ble_eq_true rfl) ⟨Nat.le_refl _, Nat.le_refl _⟩ ?_
  show xV (j10_begins) X 0 0 (hM c_thrown v4 c_read c_many c_eights c_gains v8.1 v8.2 v13.1 v13.2 c_state c_tape c_taped c_size c_from c_next c_token c_value c_fault c_number c_fives c_isLeft c_wentTimes c_goes c_isLeftLaid c_game c_rows c_columns c_isFound c_bestValue c_bestBelow c_bestShare c_share c_matrix c_system c_shares c_allShares) 16 [(0, .ref 0)] []
  refine xV_aload_n 17 rfl dX10_begins_16 rfl 0 rfl ?_
  refine xV_iconst 18 rfl dX10_begins_17 xk_i1 ?_
  obtain ⟨v18, hv18, hf⟩ := xb_s hf
  refine xV_same (rest := []) 21 rfl dX10_begins_18 rfl (C10_beginsTurns X.1.2.1 hv18) m10_beginsTurns v10_beginsTurns k10_119 rfl rfl rfl rfl rfl (Nat.le_of_ble_eq_true rfl) (Nat.le_of_ble_eq_true rfl) (Nat.le_of_ble_eq_true rfl) ⟨Nat.le_refl _, Nat.le_refl _⟩ ?_
  show xV (j10_begins) X 0 0 (hM c_thrown v4 c_read c_many c_eights c_gains v8.1 v8.2 v18.1 v18.2 c_state c_tape c_taped c_size c_from c_next c_token c_value c_fault c_number c_fives c_isLeft c_wentTimes c_goes c_isLeftLaid c_game c_rows c_columns c_isFound c_bestValue c_bestBelow c_bestShare c_share c_matrix c_system c_shares c_allShares) 21 [(0, .ref 0)] []
  refine xV_aload_n 22 rfl dX10_begins_21 rfl 0 rfl ?_
  obtain ⟨v22, hv22, hf⟩ := xb_s hf
  refine xV_same (rest := []) 25 rfl dX10_begins_22 rfl (C10_lays X.1.2.1 hv22) m10_lays v10_lays k10_79 rfl rfl rfl rfl rfl (Nat.le_of_ble_eq_true rfl) (Nat.le_of_ble_eq_true rfl) (Nat.le_of_ble_eq_true rfl) ⟨Nat.le_refl _, Nat.le_refl _⟩ ?_
  show xV (j10_begins) X 0 0 (hM c_thrown v4 c_read v22.1 v22.2.1 v22.2.2.1 v8.1 v8.2 v18.1 v18.2 c_state c_tape c_taped c_size c_from c_next c_token c_value c_fault c_number c_fives c_isLeft c_wentTimes c_goes v22.2.2.2 c_game c_rows c_columns c_isFound c_bestValue c_bestBelow c_bestShare c_share c_matrix c_system c_shares c_allShares) 25 [(0, .ref 0)] []
  obtain rfl := Option.some.inj hf
  exact xV_vret hX dX10_begins_25 (Nat.zero_le _) (Nat.zero_le _)
theorem C10_begins (l : Launch) {z : Nat} {c_told : (Nat → Int32)} {c_many : (Nat → Int32)} {c_eights : (Nat → Int32)} {c_gains : (Nat → Int32)} {c_notes : (Nat → Int32)} {c_seen : (Nat → Int32)} {c_turns : (Nat → Int32)} {c_drawn : (Nat → Int32)} {c_isLeftLaid : Int32} {c_thrown : Int32} {c_read : (Nat → Int32)} {c_state : Int32} {c_tape : (Nat → Int32)} {c_taped : Int32} {c_size : Int32} {c_from : Int32} {c_next : Int32} {c_token : Int32} {c_value : Int32} {c_fault : Int32} {c_number : Int32} {c_fives : (Nat → Int32)} {c_isLeft : (Nat → Int32)} {c_wentTimes : Int32} {c_goes : (Nat → Int32)} {c_game : (Nat → Int32)} {c_rows : Int32} {c_columns : Int32} {c_isFound : Int32} {c_bestValue : Int64} {c_bestBelow : Int64} {c_bestShare : (Nat → Int64)} {c_share : (Nat → Int64)} {c_matrix : (Nat → Int64)} {c_system : (Nat → Int64)} {c_shares : (Nat → Int32)} {c_allShares : Int32} {v : (Nat → Int32) × (Nat → Int32) × (Nat → Int32) × (Nat → Int32) × (Nat → Int32) × (Nat → Int32) × (Nat → Int32) × (Nat → Int32) × Int32} (hf : F10_begins z c_told c_many c_eights c_gains c_notes c_seen c_turns c_drawn c_isLeftLaid = some v) : xCt l yX10_begins none j10_begins [.ref 0] (hM c_thrown c_told c_read c_many c_eights c_gains c_notes c_seen c_turns c_drawn c_state c_tape c_taped c_size c_from c_next c_token c_value c_fault c_number c_fives c_isLeft c_wentTimes c_goes c_isLeftLaid c_game c_rows c_columns c_isFound c_bestValue c_bestBelow c_bestShare c_share c_matrix c_system c_shares c_allShares) none (hM c_thrown v.1 c_read v.2.1 v.2.2.1 v.2.2.2.1 v.2.2.2.2.1 v.2.2.2.2.2.1 v.2.2.2.2.2.2.1 v.2.2.2.2.2.2.2.1 c_state c_tape c_taped c_size c_from c_next c_token c_value c_fault c_number c_fives c_isLeft c_wentTimes c_goes v.2.2.2.2.2.2.2.2 c_game c_rows c_columns c_isFound c_bestValue c_bestBelow c_bestShare c_share c_matrix c_system c_shares c_allShares) := xCt_of (by decide) rfl (Nat.le_of_ble_eq_true rfl) (fun _ hX => T10_begins hX hf)
theorem m10_begins : xMd yX10_begins RX10 none j10_begins 0 := ⟨List.mem_of_getElem? (i := 523) (by decide +kernel), List.mem_of_getElem? (i := 5) (by decide +kernel), rfl, by decide +kernel⟩
theorem v10_begins : xMv yX10_begins RX10 := ⟨List.mem_of_getElem? (i := 521) (by decide +kernel), List.mem_of_getElem? (i := 522) (by decide +kernel)⟩
theorem xk_im8 : Int32.ofInt (-8) = (-8 : Int32) := by decide
theorem f10_45 : xFl RX10 45 10 11 := ⟨_, rfl, by decide, List.mem_of_getElem? (i := 132) (by decide +kernel)⟩
theorem f10_123 : xFl RX10 123 10 12 := ⟨_, rfl, by decide, List.mem_of_getElem? (i := 184) (by decide +kernel)⟩
theorem nf10_12 : ∀ q : vw_C, vwCl[10]? = some q → (q.2.1 12).2.2.2 = false := fun q e => by cases e; rfl
theorem dX10_puts_0 : decode cX10_puts 0 = .ok (.bipush 24, 2) := by decide +kernel
theorem dX10_puts_2 : decode cX10_puts 2 = .ok (.istore_n 2, 1) := by decide +kernel
theorem dX10_puts_3 : decode cX10_puts 3 = .ok (.iload_n 2, 1) := by decide +kernel
theorem dX10_puts_4 : decode cX10_puts 4 = .ok (.ifCond .lt 32, 3) := by decide +kernel
theorem dX10_puts_7 : decode cX10_puts 7 = .ok (.aload_n 0, 1) := by decide +kernel
theorem dX10_puts_8 : decode cX10_puts 8 = .ok (.getfield 45, 3) := by decide +kernel
theorem dX10_puts_11 : decode cX10_puts 11 = .ok (.aload_n 0, 1) := by decide +kernel
theorem dX10_puts_12 : decode cX10_puts 12 = .ok (.getfield 123, 3) := by decide +kernel
theorem dX10_puts_15 : decode cX10_puts 15 = .ok (.iload_n 1, 1) := by decide +kernel
theorem dX10_puts_16 : decode cX10_puts 16 = .ok (.iload_n 2, 1) := by decide +kernel
theorem dX10_puts_17 : decode cX10_puts 17 = .ok (.ishr, 1) := by decide +kernel
theorem dX10_puts_18 : decode cX10_puts 18 = .ok (.i2b, 1) := by decide +kernel
theorem dX10_puts_19 : decode cX10_puts 19 = .ok (.bastore, 1) := by decide +kernel
theorem dX10_puts_20 : decode cX10_puts 20 = .ok (.aload_n 0, 1) := by decide +kernel
theorem dX10_puts_21 : decode cX10_puts 21 = .ok (.dup, 1) := by decide +kernel
theorem dX10_puts_22 : decode cX10_puts 22 = .ok (.getfield 123, 3) := by decide +kernel
theorem dX10_puts_25 : decode cX10_puts 25 = .ok (.iconst 1, 1) := by decide +kernel
theorem dX10_puts_26 : decode cX10_puts 26 = .ok (.iadd, 1) := by decide +kernel
theorem dX10_puts_27 : decode cX10_puts 27 = .ok (.putfield 123, 3) := by decide +kernel
theorem dX10_puts_30 : decode cX10_puts 30 = .ok (.iinc 2 (-8), 3) := by decide +kernel
theorem dX10_puts_33 : decode cX10_puts 33 = .ok (.goto (-30), 3) := by decide +kernel
theorem dX10_puts_36 : decode cX10_puts 36 = .ok (.return_, 1) := by decide +kernel
abbrev j10_puts : xJ := (cX10_puts, 3, RX10, 1, 0, 0)
def F10_puts_b3 (z : Nat) (w : Nat) (x1 : Int32) (x2 : Int32) (c_tape : (Nat → Int32)) (c_taped : Int32) : Option ((Nat → Int32) × Int32) := match w with
  | 0 => none
  | w + 1 => if x2 < 0 then (some (c_tape, c_taped)) else (xg (xin c_taped 300) (F10_puts_b3 z w x1 (x2 + (-8 : Int32)) (upd c_tape (xn c_taped) (vp_nar .byte ((x1 >>> (x2 &&& 31))).toInt8.toInt32)) (c_taped + (1 : Int32))))
theorem T10_puts_b3 {X : xX} {c_thrown : Int32} {c_told : (Nat → Int32)} {c_read : (Nat → Int32)} {c_many : (Nat → Int32)} {c_eights : (Nat → Int32)} {c_gains : (Nat → Int32)} {c_notes : (Nat → Int32)} {c_seen : (Nat → Int32)} {c_turns : (Nat → Int32)} {c_drawn : (Nat → Int32)} {c_state : Int32} {c_size : Int32} {c_from : Int32} {c_next : Int32} {c_token : Int32} {c_value : Int32} {c_fault : Int32} {c_number : Int32} {c_fives : (Nat → Int32)} {c_isLeft : (Nat → Int32)} {c_wentTimes : Int32} {c_goes : (Nat → Int32)} {c_isLeftLaid : Int32} {c_game : (Nat → Int32)} {c_rows : Int32} {c_columns : Int32} {c_isFound : Int32} {c_bestValue : Int64} {c_bestBelow : Int64} {c_bestShare : (Nat → Int64)} {c_share : (Nat → Int64)} {c_matrix : (Nat → Int64)} {c_system : (Nat → Int64)} {c_shares : (Nat → Int32)} {c_allShares : Int32} {z : Nat} {v : (Nat → Int32) × Int32} (hX : xIs (j10_puts) X none none (hM c_thrown c_told c_read c_many c_eights c_gains c_notes c_seen c_turns c_drawn c_state v.1 v.2 c_size c_from c_next c_token c_value c_fault c_number c_fives c_isLeft c_wentTimes c_goes c_isLeftLaid c_game c_rows c_columns c_isFound c_bestValue c_bestBelow c_bestShare c_share c_matrix c_system c_shares c_allShares)) : ∀ (w : Nat) {x1 : Int32} {x2 : Int32} {c_tape : (Nat → Int32)} {c_taped : Int32}, F10_puts_b3 z w x1 x2 c_tape c_taped = some v → xV (j10_puts) X 0 0 (hM c_thrown c_told c_read c_many c_eights c_gains c_notes c_seen c_turns c_drawn c_state c_tape c_taped c_size c_from c_next c_token c_value c_fault c_number c_fives c_isLeft c_wentTimes c_goes c_isLeftLaid c_game c_rows c_columns c_isFound c_bestValue c_bestBelow c_bestShare c_share c_matrix c_system c_shares c_allShares) 3 [(0, .ref 0), (1, .int x1), (2, .int x2)] [] := by
  intro w
  induction w with
  | zero => intro x1 x2 c_tape c_taped hf; cases hf
  | succ w ih =>
    intro x1 x2 c_tape c_taped hf
    unfold F10_puts_b3 at hf
    refine xV_iload_n 4 rfl dX10_puts_3 rfl 2 rfl ?_
    refine xV_if_lt (tgt := 36) 7 rfl dX10_puts_4 (by decide) (fun h4 => ?_) (fun h4 => ?_)
    · have hf := xif_t hf h4
      obtain rfl := Option.some.inj hf
      exact xV_vret hX dX10_puts_36 (Nat.zero_le _) (Nat.zero_le _)
    · have hf := xif_f hf h4
      refine xV_aload_n 8 rfl dX10_puts_7 rfl 0 rfl ?_
      refine xV_get (v := .ref 10) 11 rfl dX10_puts_8 f10_45 rfl rfl ?_
      refine xV_aload_n 12 rfl dX10_puts_11 rfl 0 rfl ?_
      refine xV_get (v := .int c_taped) 15 rfl dX10_puts_12 f10_123 rfl rfl ?_
      refine xV_iload_n 16 rfl dX10_puts_15 rfl 1 rfl ?_
      refine xV_iload_n 17 rfl dX10_puts_16 rfl 2 rfl ?_
      refine xV_ishr 18 rfl dX10_puts_17 ?_
      refine xV_i2b 19 rfl dX10_puts_18 ?_
      obtain ⟨hg19, hf⟩ := xg_s hf
      refine xV_bastore (h' := (hM c_thrown c_told c_read c_many c_eights c_gains c_notes c_seen c_turns c_drawn c_state (upd c_tape (xn c_taped) (vp_nar .byte ((x1 >>> (x2 &&& 31))).toInt8.toInt32)) c_taped c_size c_from c_next c_token c_value c_fault c_number c_fives c_isLeft c_wentTimes c_goes c_isLeftLaid c_game c_rows c_columns c_isFound c_bestValue c_bestBelow c_bestShare c_share c_matrix c_system c_shares c_allShares)) 20 rfl dX10_puts_19 rfl (xin_ok hg19) rfl rfl ?_
      refine xV_aload_n 21 rfl dX10_puts_20 rfl 0 rfl ?_
      refine xV_dup 22 rfl dX10_puts_21 rfl ?_
      refine xV_get (v := .int c_taped) 25 rfl dX10_puts_22 f10_123 rfl rfl ?_
      refine xV_iconst 26 rfl dX10_puts_25 xk_i1 ?_
      refine xV_iadd 27 rfl dX10_puts_26 ?_
      refine xV_put (h' := (hM c_thrown c_told c_read c_many c_eights c_gains c_notes c_seen c_turns c_drawn c_state (upd c_tape (xn c_taped) (vp_nar .byte ((x1 >>> (x2 &&& 31))).toInt8.toInt32)) (c_taped + (1 : Int32)) c_size c_from c_next c_token c_value c_fault c_number c_fives c_isLeft c_wentTimes c_goes c_isLeftLaid c_game c_rows c_columns c_isFound c_bestValue c_bestBelow c_bestShare c_share c_matrix c_system c_shares c_allShares)) 30 rfl dX10_puts_27 f10_123 rfl nf10_12 (fun _ => rfl) (fun _ => rfl) (Nat.le_of_ble_eq_true rfl) rfl ?_
      refine xV_iinc (L' := [(2, .int (x2 + (-8 : Int32))), (0, .ref 0), (1, .int x1)]) 33 rfl dX10_puts_30 2 rfl (xk_inc xk_im8) (xlt rfl) rfl ?_
      refine xV_goto (tgt := 3) dX10_puts_33 (by decide) ?_
      refine xV_sub [1, 2, 0] rfl ?_
      exact ih hf
def F10_puts (z : Nat) (x1 : Int32) (c_tape : (Nat → Int32)) (c_taped : Int32) : Option ((Nat → Int32) × Int32) :=
  F10_puts_b3 z z x1 (24 : Int32) c_tape c_taped
theorem T10_puts {X : xX} {z : Nat} {x1 : Int32} {c_tape : (Nat → Int32)} {c_taped : Int32} {c_thrown : Int32} {c_told : (Nat → Int32)} {c_read : (Nat → Int32)} {c_many : (Nat → Int32)} {c_eights : (Nat → Int32)} {c_gains : (Nat → Int32)} {c_notes : (Nat → Int32)} {c_seen : (Nat → Int32)} {c_turns : (Nat → Int32)} {c_drawn : (Nat → Int32)} {c_state : Int32} {c_size : Int32} {c_from : Int32} {c_next : Int32} {c_token : Int32} {c_value : Int32} {c_fault : Int32} {c_number : Int32} {c_fives : (Nat → Int32)} {c_isLeft : (Nat → Int32)} {c_wentTimes : Int32} {c_goes : (Nat → Int32)} {c_isLeftLaid : Int32} {c_game : (Nat → Int32)} {c_rows : Int32} {c_columns : Int32} {c_isFound : Int32} {c_bestValue : Int64} {c_bestBelow : Int64} {c_bestShare : (Nat → Int64)} {c_share : (Nat → Int64)} {c_matrix : (Nat → Int64)} {c_system : (Nat → Int64)} {c_shares : (Nat → Int32)} {c_allShares : Int32} {v : (Nat → Int32) × Int32} (hX : xIs (j10_puts) X none none (hM c_thrown c_told c_read c_many c_eights c_gains c_notes c_seen c_turns c_drawn c_state v.1 v.2 c_size c_from c_next c_token c_value c_fault c_number c_fives c_isLeft c_wentTimes c_goes c_isLeftLaid c_game c_rows c_columns c_isFound c_bestValue c_bestBelow c_bestShare c_share c_matrix c_system c_shares c_allShares)) (hf : F10_puts z x1 c_tape c_taped = some v) : xV (j10_puts) X 0 0 (hM c_thrown c_told c_read c_many c_eights c_gains c_notes c_seen c_turns c_drawn c_state c_tape c_taped c_size c_from c_next c_token c_value c_fault c_number c_fives c_isLeft c_wentTimes c_goes c_isLeftLaid c_game c_rows c_columns c_isFound c_bestValue c_bestBelow c_bestShare c_share c_matrix c_system c_shares c_allShares) 0 [(0, .ref 0), (1, .int x1)] [] := by
  unfold F10_puts at hf
  refine xV_bipush 2 rfl dX10_puts_0 xk_b24 ?_
  refine xV_istore_n (L' := [(2, .int (24 : Int32)), (0, .ref 0), (1, .int x1)]) 3 rfl dX10_puts_2 rfl (xlt rfl) rfl ?_
  refine xV_sub [1, 2, 0] rfl ?_
  exact T10_puts_b3 hX _ hf
theorem C10_puts (l : Launch) {z : Nat} {x1 : Int32} {c_tape : (Nat → Int32)} {c_taped : Int32} {c_thrown : Int32} {c_told : (Nat → Int32)} {c_read : (Nat → Int32)} {c_many : (Nat → Int32)} {c_eights : (Nat → Int32)} {c_gains : (Nat → Int32)} {c_notes : (Nat → Int32)} {c_seen : (Nat → Int32)} {c_turns : (Nat → Int32)} {c_drawn : (Nat → Int32)} {c_state : Int32} {c_size : Int32} {c_from : Int32} {c_next : Int32} {c_token : Int32} {c_value : Int32} {c_fault : Int32} {c_number : Int32} {c_fives : (Nat → Int32)} {c_isLeft : (Nat → Int32)} {c_wentTimes : Int32} {c_goes : (Nat → Int32)} {c_isLeftLaid : Int32} {c_game : (Nat → Int32)} {c_rows : Int32} {c_columns : Int32} {c_isFound : Int32} {c_bestValue : Int64} {c_bestBelow : Int64} {c_bestShare : (Nat → Int64)} {c_share : (Nat → Int64)} {c_matrix : (Nat → Int64)} {c_system : (Nat → Int64)} {c_shares : (Nat → Int32)} {c_allShares : Int32} {v : (Nat → Int32) × Int32} (hf : F10_puts z x1 c_tape c_taped = some v) : xCt l yX10_puts none j10_puts [.ref 0, .int x1] (hM c_thrown c_told c_read c_many c_eights c_gains c_notes c_seen c_turns c_drawn c_state c_tape c_taped c_size c_from c_next c_token c_value c_fault c_number c_fives c_isLeft c_wentTimes c_goes c_isLeftLaid c_game c_rows c_columns c_isFound c_bestValue c_bestBelow c_bestShare c_share c_matrix c_system c_shares c_allShares) none (hM c_thrown c_told c_read c_many c_eights c_gains c_notes c_seen c_turns c_drawn c_state v.1 v.2 c_size c_from c_next c_token c_value c_fault c_number c_fives c_isLeft c_wentTimes c_goes c_isLeftLaid c_game c_rows c_columns c_isFound c_bestValue c_bestBelow c_bestShare c_share c_matrix c_system c_shares c_allShares) := xCt_of (by decide) rfl (Nat.le_of_ble_eq_true rfl) (fun _ hX => T10_puts hX hf)
theorem m10_puts : xMd yX10_puts RX10 none j10_puts 1 := ⟨List.mem_of_getElem? (i := 188) (by decide +kernel), List.mem_of_getElem? (i := 5) (by decide +kernel), rfl, by decide +kernel⟩
theorem v10_puts : xMv yX10_puts RX10 := ⟨List.mem_of_getElem? (i := 186) (by decide +kernel), List.mem_of_getElem? (i := 187) (by decide +kernel)⟩
theorem xk_b20 : (Int8.ofInt (20)).toInt32 = (20 : Int32) := by decide
theorem xk_s300 : (Int16.ofInt (300)).toInt32 = (300 : Int32) := by decide
theorem nf10_0 : ∀ q : vw_C, vwCl[10]? = some q → (q.2.1 0).2.2.2 = false := fun q e => by cases e; rfl
theorem k10_126 : Cond.methodLink RX10 126 yX10_puts ∈ wsL_law0 := List.mem_of_getElem? (i := 185) (by decide +kernel)
theorem dX10_feed_0 : decode cX10_feed 0 = .ok (.aload_n 0, 1) := by decide +kernel
theorem dX10_feed_1 : decode cX10_feed 1 = .ok (.iconst 0, 1) := by decide +kernel
theorem dX10_feed_2 : decode cX10_feed 2 = .ok (.putfield 1, 3) := by decide +kernel
theorem dX10_feed_5 : decode cX10_feed 5 = .ok (.aload_n 0, 1) := by decide +kernel
theorem dX10_feed_6 : decode cX10_feed 6 = .ok (.getfield 123, 3) := by decide +kernel
theorem dX10_feed_9 : decode cX10_feed 9 = .ok (.bipush 20, 2) := by decide +kernel
theorem dX10_feed_11 : decode cX10_feed 11 = .ok (.iadd, 1) := by decide +kernel
theorem dX10_feed_12 : decode cX10_feed 12 = .ok (.sipush 300, 3) := by decide +kernel
theorem dX10_feed_15 : decode cX10_feed 15 = .ok (.if_icmp .le 5, 3) := by decide +kernel
theorem dX10_feed_18 : decode cX10_feed 18 = .ok (.iconst (-1), 1) := by decide +kernel
theorem dX10_feed_19 : decode cX10_feed 19 = .ok (.ireturn, 1) := by decide +kernel
theorem dX10_feed_20 : decode cX10_feed 20 = .ok (.aload_n 0, 1) := by decide +kernel
theorem dX10_feed_21 : decode cX10_feed 21 = .ok (.iload_n 1, 1) := by decide +kernel
theorem dX10_feed_22 : decode cX10_feed 22 = .ok (.invokevirtual 126, 3) := by decide +kernel
theorem dX10_feed_25 : decode cX10_feed 25 = .ok (.aload_n 0, 1) := by decide +kernel
theorem dX10_feed_26 : decode cX10_feed 26 = .ok (.iload_n 2, 1) := by decide +kernel
theorem dX10_feed_27 : decode cX10_feed 27 = .ok (.invokevirtual 126, 3) := by decide +kernel
theorem dX10_feed_30 : decode cX10_feed 30 = .ok (.aload_n 0, 1) := by decide +kernel
theorem dX10_feed_31 : decode cX10_feed 31 = .ok (.iload_n 3, 1) := by decide +kernel
theorem dX10_feed_32 : decode cX10_feed 32 = .ok (.invokevirtual 126, 3) := by decide +kernel
theorem dX10_feed_35 : decode cX10_feed 35 = .ok (.aload_n 0, 1) := by decide +kernel
theorem dX10_feed_36 : decode cX10_feed 36 = .ok (.iload 4, 2) := by decide +kernel
theorem dX10_feed_38 : decode cX10_feed 38 = .ok (.invokevirtual 126, 3) := by decide +kernel
theorem dX10_feed_41 : decode cX10_feed 41 = .ok (.aload_n 0, 1) := by decide +kernel
theorem dX10_feed_42 : decode cX10_feed 42 = .ok (.iload 5, 2) := by decide +kernel
theorem dX10_feed_44 : decode cX10_feed 44 = .ok (.invokevirtual 126, 3) := by decide +kernel
theorem dX10_feed_47 : decode cX10_feed 47 = .ok (.aload_n 0, 1) := by decide +kernel
theorem dX10_feed_48 : decode cX10_feed 48 = .ok (.getfield 123, 3) := by decide +kernel
theorem dX10_feed_51 : decode cX10_feed 51 = .ok (.ireturn, 1) := by decide +kernel
abbrev j10_feed : xJ := (cX10_feed, 6, RX10, 2, 0, 0)
def F10_feed (z : Nat) (x1 : Int32) (x2 : Int32) (x3 : Int32) (x4 : Int32) (x5 : Int32) (c_thrown : Int32) (c_tape : (Nat → Int32)) (c_taped : Int32) : Option (Int32 × Int32 × (Nat → Int32) × Int32) :=
  if (c_taped + (20 : Int32)) ≤ (300 : Int32) then ((F10_puts z x1 c_tape c_taped).bind (fun v22 => (F10_puts z x2 v22.1 v22.2).bind (fun v27 => (F10_puts z x3 v27.1 v27.2).bind (fun v32 => (F10_puts z x4 v32.1 v32.2).bind (fun v38 => (F10_puts z x5 v38.1 v38.2).bind (fun v44 => some (v44.2, (0 : Int32), v44.1, v44.2))))))) else (some ((-1 : Int32), (0 : Int32), c_tape, c_taped))
theorem T10_feed {X : xX} {z : Nat} {x1 : Int32} {x2 : Int32} {x3 : Int32} {x4 : Int32} {x5 : Int32} {c_thrown : Int32} {c_tape : (Nat → Int32)} {c_taped : Int32} {c_told : (Nat → Int32)} {c_read : (Nat → Int32)} {c_many : (Nat → Int32)} {c_eights : (Nat → Int32)} {c_gains : (Nat → Int32)} {c_notes : (Nat → Int32)} {c_seen : (Nat → Int32)} {c_turns : (Nat → Int32)} {c_drawn : (Nat → Int32)} {c_state : Int32} {c_size : Int32} {c_from : Int32} {c_next : Int32} {c_token : Int32} {c_value : Int32} {c_fault : Int32} {c_number : Int32} {c_fives : (Nat → Int32)} {c_isLeft : (Nat → Int32)} {c_wentTimes : Int32} {c_goes : (Nat → Int32)} {c_isLeftLaid : Int32} {c_game : (Nat → Int32)} {c_rows : Int32} {c_columns : Int32} {c_isFound : Int32} {c_bestValue : Int64} {c_bestBelow : Int64} {c_bestShare : (Nat → Int64)} {c_share : (Nat → Int64)} {c_matrix : (Nat → Int64)} {c_system : (Nat → Int64)} {c_shares : (Nat → Int32)} {c_allShares : Int32} {v : Int32 × Int32 × (Nat → Int32) × Int32} (hX : xIs (j10_feed) X ((some .int)) (some (.int v.1)) (hM v.2.1 c_told c_read c_many c_eights c_gains c_notes c_seen c_turns c_drawn c_state v.2.2.1 v.2.2.2 c_size c_from c_next c_token c_value c_fault c_number c_fives c_isLeft c_wentTimes c_goes c_isLeftLaid c_game c_rows c_columns c_isFound c_bestValue c_bestBelow c_bestShare c_share c_matrix c_system c_shares c_allShares)) (hf : F10_feed z x1 x2 x3 x4 x5 c_thrown c_tape c_taped = some v) : xV (j10_feed) X 0 0 (hM c_thrown c_told c_read c_many c_eights c_gains c_notes c_seen c_turns c_drawn c_state c_tape c_taped c_size c_from c_next c_token c_value c_fault c_number c_fives c_isLeft c_wentTimes c_goes c_isLeftLaid c_game c_rows c_columns c_isFound c_bestValue c_bestBelow c_bestShare c_share c_matrix c_system c_shares c_allShares) 0 [(0, .ref 0), (1, .int x1), (2, .int x2), (3, .int x3), (4, .int x4), (5, .int x5)] [] := by
  unfold F10_feed at hf
  refine xV_aload_n 1 rfl dX10_feed_0 rfl 0 rfl ?_
  refine xV_iconst 2 rfl dX10_feed_1 xk_i0 ?_
  refine xV_put (h' := (hM (0 : Int32) c_told c_read c_many c_eights c_gains c_notes c_seen c_turns c_drawn c_state c_tape c_taped c_size c_from c_next c_token c_value c_fault c_number c_fives c_isLeft c_wentTimes c_goes c_isLeftLaid c_game c_rows c_columns c_isFound c_bestValue c_bestBelow c_bestShare c_share c_matrix c_system c_shares c_allShares)) 5 rfl dX10_feed_2 f10_1 rfl nf10_0 (fun _ => rfl) (fun _ => rfl) (Nat.le_of_ble_eq_true rfl) rfl ?_
  refine xV_aload_n 6 rfl dX10_feed_5 rfl 0 rfl ?_
  refine xV_get (v := .int c_taped) 9 rfl dX10_feed_6 f10_123 rfl rfl ?_
  refine xV_bipush 11 rfl dX10_feed_9 xk_b20 ?_
  refine xV_iadd 12 rfl dX10_feed_11 ?_
  refine xV_sipush 15 rfl dX10_feed_12 xk_s300 ?_
  refine xV_icmp_le (tgt := 20) 18 rfl dX10_feed_15 (by decide) (fun h15 => ?_) (fun h15 => ?_)
  · have hf := xif_t hf h15
    refine xV_aload_n 21 rfl dX10_feed_20 rfl 0 rfl ?_
    refine xV_iload_n 22 rfl dX10_feed_21 rfl 1 rfl ?_
    obtain ⟨v22, hv22, hf⟩ := xb_s hf
    refine xV_same (rest := []) 25 rfl dX10_feed_22 rfl (C10_puts X.1.2.1 hv22) m10_puts v10_puts k10_126 rfl rfl rfl rfl rfl (Nat.le_of_ble_eq_true rfl) (Nat.le_of_ble_eq_true rfl) (Nat.le_of_ble_eq_true rfl) ⟨Nat.le_refl _, Nat.le_refl _⟩ ?_
    show xV (j10_feed) X 0 0 (hM (0 : Int32) c_told c_read c_many c_eights c_gains c_notes c_seen c_turns c_drawn c_state v22.1 v22.2 c_size c_from c_next c_token c_value c_fault c_number c_fives c_isLeft c_wentTimes c_goes c_isLeftLaid c_game c_rows c_columns c_isFound c_bestValue c_bestBelow c_bestShare c_share c_matrix c_system c_shares c_allShares) 25 [(0, .ref 0), (1, .int x1), (2, .int x2), (3, .int x3), (4, .int x4), (5, .int x5)] []
    refine xV_aload_n 26 rfl dX10_feed_25 rfl 0 rfl ?_
    refine xV_iload_n 27 rfl dX10_feed_26 rfl 2 rfl ?_
    obtain ⟨v27, hv27, hf⟩ := xb_s hf
    refine xV_same (rest := []) 30 rfl dX10_feed_27 rfl (C10_puts X.1.2.1 hv27) m10_puts v10_puts k10_126 rfl rfl rfl rfl rfl (Nat.le_of_ble_eq_true rfl) (Nat.le_of_ble_eq_true rfl) (Nat.le_of_ble_eq_true rfl) ⟨Nat.le_refl _, Nat.le_refl _⟩ ?_
    show xV (j10_feed) X 0 0 (hM (0 : Int32) c_told c_read c_many c_eights c_gains c_notes c_seen c_turns c_drawn c_state v27.1 v27.2 c_size c_from c_next c_token c_value c_fault c_number c_fives c_isLeft c_wentTimes c_goes c_isLeftLaid c_game c_rows c_columns c_isFound c_bestValue c_bestBelow c_bestShare c_share c_matrix c_system c_shares c_allShares) 30 [(0, .ref 0), (1, .int x1), (2, .int x2), (3, .int x3), (4, .int x4), (5, .int x5)] []
    refine xV_aload_n 31 rfl dX10_feed_30 rfl 0 rfl ?_
    refine xV_iload_n 32 rfl dX10_feed_31 rfl 3 rfl ?_
    obtain ⟨v32, hv32, hf⟩ := xb_s hf
    refine xV_same (rest := []) 35 rfl dX10_feed_32 rfl (C10_puts X.1.2.1 hv32) m10_puts v10_puts k10_126 rfl rfl rfl rfl rfl (Nat.le_of_ble_eq_true rfl) (Nat.le_of_ble_eq_true rfl) (Nat.le_of_ble_eq_true rfl) ⟨Nat.le_refl _, Nat.le_refl _⟩ ?_
    show xV (j10_feed) X 0 0 (hM (0 : Int32) c_told c_read c_many c_eights c_gains c_notes c_seen c_turns c_drawn c_state v32.1 v32.2 c_size c_from c_next c_token c_value c_fault c_number c_fives c_isLeft c_wentTimes c_goes c_isLeftLaid c_game c_rows c_columns c_isFound c_bestValue c_bestBelow c_bestShare c_share c_matrix c_system c_shares c_allShares) 35 [(0, .ref 0), (1, .int x1), (2, .int x2), (3, .int x3), (4, .int x4), (5, .int x5)] []
    refine xV_aload_n 36 rfl dX10_feed_35 rfl 0 rfl ?_
    refine xV_iload 38 rfl dX10_feed_36 4 rfl ?_
    obtain ⟨v38, hv38, hf⟩ := xb_s hf
    refine xV_same (rest := []) 41 rfl dX10_feed_38 rfl (C10_puts X.1.2.1 hv38) m10_puts v10_puts k10_126 rfl rfl rfl rfl rfl (Nat.le_of_ble_eq_true rfl) (Nat.le_of_ble_eq_true rfl) (Nat.le_of_ble_eq_true rfl) ⟨Nat.le_refl _, Nat.le_refl _⟩ ?_
    show xV (j10_feed) X 0 0 (hM (0 : Int32) c_told c_read c_many c_eights c_gains c_notes c_seen c_turns c_drawn c_state v38.1 v38.2 c_size c_from c_next c_token c_value c_fault c_number c_fives c_isLeft c_wentTimes c_goes c_isLeftLaid c_game c_rows c_columns c_isFound c_bestValue c_bestBelow c_bestShare c_share c_matrix c_system c_shares c_allShares) 41 [(0, .ref 0), (1, .int x1), (2, .int x2), (3, .int x3), (4, .int x4), (5, .int x5)] []
    refine xV_aload_n 42 rfl dX10_feed_41 rfl 0 rfl ?_
    refine xV_iload 44 rfl dX10_feed_42 5 rfl ?_
    obtain ⟨v44, hv44, hf⟩ := xb_s hf
    refine xV_same (rest := []) 47 rfl dX10_feed_44 rfl (C10_puts X.1.2.1 hv44) m10_puts v10_puts k10_126 rfl rfl rfl rfl rfl (Nat.le_of_ble_eq_true rfl) (Nat.le_of_ble_eq_true rfl) (Nat.le_of_ble_eq_true rfl) ⟨Nat.le_refl _, Nat.le_refl _⟩ ?_
    show xV (j10_feed) X 0 0 (hM (0 : Int32) c_told c_read c_many c_eights c_gains c_notes c_seen c_turns c_drawn c_state v44.1 v44.2 c_size c_from c_next c_token c_value c_fault c_number c_fives c_isLeft c_wentTimes c_goes c_isLeftLaid c_game c_rows c_columns c_isFound c_bestValue c_bestBelow c_bestShare c_share c_matrix c_system c_shares c_allShares) 47 [(0, .ref 0), (1, .int x1), (2, .int x2), (3, .int x3), (4, .int x4), (5, .int x5)] []
    refine xV_aload_n 48 rfl dX10_feed_47 rfl 0 rfl ?_
    refine xV_get (v := .int v44.2) 51 rfl dX10_feed_48 f10_123 rfl rfl ?_
    obtain rfl := Option.some.inj hf
    exact xV_iret hX dX10_feed_51 rfl (Nat.zero_le _) (Nat.zero_le _)
  · have hf := xif_f hf h15
    refine xV_iconst 19 rfl dX10_feed_18 xk_im1 ?_
    obtain rfl := Option.some.inj hf
    exact xV_iret hX dX10_feed_19 rfl (Nat.zero_le _) (Nat.zero_le _)
theorem C10_feed (l : Launch) {z : Nat} {x1 : Int32} {x2 : Int32} {x3 : Int32} {x4 : Int32} {x5 : Int32} {c_thrown : Int32} {c_tape : (Nat → Int32)} {c_taped : Int32} {c_told : (Nat → Int32)} {c_read : (Nat → Int32)} {c_many : (Nat → Int32)} {c_eights : (Nat → Int32)} {c_gains : (Nat → Int32)} {c_notes : (Nat → Int32)} {c_seen : (Nat → Int32)} {c_turns : (Nat → Int32)} {c_drawn : (Nat → Int32)} {c_state : Int32} {c_size : Int32} {c_from : Int32} {c_next : Int32} {c_token : Int32} {c_value : Int32} {c_fault : Int32} {c_number : Int32} {c_fives : (Nat → Int32)} {c_isLeft : (Nat → Int32)} {c_wentTimes : Int32} {c_goes : (Nat → Int32)} {c_isLeftLaid : Int32} {c_game : (Nat → Int32)} {c_rows : Int32} {c_columns : Int32} {c_isFound : Int32} {c_bestValue : Int64} {c_bestBelow : Int64} {c_bestShare : (Nat → Int64)} {c_share : (Nat → Int64)} {c_matrix : (Nat → Int64)} {c_system : (Nat → Int64)} {c_shares : (Nat → Int32)} {c_allShares : Int32} {v : Int32 × Int32 × (Nat → Int32) × Int32} (hf : F10_feed z x1 x2 x3 x4 x5 c_thrown c_tape c_taped = some v) : xCt l yX10_feed ((some .int)) j10_feed [.ref 0, .int x1, .int x2, .int x3, .int x4, .int x5] (hM c_thrown c_told c_read c_many c_eights c_gains c_notes c_seen c_turns c_drawn c_state c_tape c_taped c_size c_from c_next c_token c_value c_fault c_number c_fives c_isLeft c_wentTimes c_goes c_isLeftLaid c_game c_rows c_columns c_isFound c_bestValue c_bestBelow c_bestShare c_share c_matrix c_system c_shares c_allShares) (some (.int v.1)) (hM v.2.1 c_told c_read c_many c_eights c_gains c_notes c_seen c_turns c_drawn c_state v.2.2.1 v.2.2.2 c_size c_from c_next c_token c_value c_fault c_number c_fives c_isLeft c_wentTimes c_goes c_isLeftLaid c_game c_rows c_columns c_isFound c_bestValue c_bestBelow c_bestShare c_share c_matrix c_system c_shares c_allShares) := xCt_of (by decide) rfl (Nat.le_of_ble_eq_true rfl) (fun _ hX => T10_feed hX hf)
theorem m10_feed : xMd yX10_feed RX10 ((some .int)) j10_feed 5 := ⟨List.mem_of_getElem? (i := 182) (by decide +kernel), List.mem_of_getElem? (i := 5) (by decide +kernel), rfl, by decide +kernel⟩
theorem v10_feed : xMv yX10_feed RX10 := ⟨List.mem_of_getElem? (i := 180) (by decide +kernel), List.mem_of_getElem? (i := 181) (by decide +kernel)⟩
theorem xk_s255 : (Int16.ofInt (255)).toInt32 = (255 : Int32) := by decide
theorem f10_129 : xFl RX10 129 10 13 := ⟨_, rfl, by decide, List.mem_of_getElem? (i := 409) (by decide +kernel)⟩
theorem dX10_byteAt_0 : decode cX10_byteAt 0 = .ok (.iload_n 1, 1) := by decide +kernel
theorem dX10_byteAt_1 : decode cX10_byteAt 1 = .ok (.aload_n 0, 1) := by decide +kernel
theorem dX10_byteAt_2 : decode cX10_byteAt 2 = .ok (.getfield 129, 3) := by decide +kernel
theorem dX10_byteAt_5 : decode cX10_byteAt 5 = .ok (.if_icmp .ge 16, 3) := by decide +kernel
theorem dX10_byteAt_8 : decode cX10_byteAt 8 = .ok (.aload_n 0, 1) := by decide +kernel
theorem dX10_byteAt_9 : decode cX10_byteAt 9 = .ok (.getfield 45, 3) := by decide +kernel
theorem dX10_byteAt_12 : decode cX10_byteAt 12 = .ok (.iload_n 1, 1) := by decide +kernel
theorem dX10_byteAt_13 : decode cX10_byteAt 13 = .ok (.baload, 1) := by decide +kernel
theorem dX10_byteAt_14 : decode cX10_byteAt 14 = .ok (.sipush 255, 3) := by decide +kernel
theorem dX10_byteAt_17 : decode cX10_byteAt 17 = .ok (.iand, 1) := by decide +kernel
theorem dX10_byteAt_18 : decode cX10_byteAt 18 = .ok (.goto 4, 3) := by decide +kernel
theorem dX10_byteAt_21 : decode cX10_byteAt 21 = .ok (.iconst (-1), 1) := by decide +kernel
theorem dX10_byteAt_22 : decode cX10_byteAt 22 = .ok (.ireturn, 1) := by decide +kernel
abbrev j10_byteAt : xJ := (cX10_byteAt, 2, RX10, 1, 0, 0)
def F10_byteAt (x1 : Int32) (c_tape : (Nat → Int32)) (c_size : Int32) : Option (Int32) :=
  if c_size ≤ x1 then (some ((-1 : Int32))) else (xg (xin x1 300) (some (((c_tape (xn x1)) &&& (255 : Int32)))))
theorem T10_byteAt {X : xX} {x1 : Int32} {c_tape : (Nat → Int32)} {c_size : Int32} {c_thrown : Int32} {c_told : (Nat → Int32)} {c_read : (Nat → Int32)} {c_many : (Nat → Int32)} {c_eights : (Nat → Int32)} {c_gains : (Nat → Int32)} {c_notes : (Nat → Int32)} {c_seen : (Nat → Int32)} {c_turns : (Nat → Int32)} {c_drawn : (Nat → Int32)} {c_state : Int32} {c_taped : Int32} {c_from : Int32} {c_next : Int32} {c_token : Int32} {c_value : Int32} {c_fault : Int32} {c_number : Int32} {c_fives : (Nat → Int32)} {c_isLeft : (Nat → Int32)} {c_wentTimes : Int32} {c_goes : (Nat → Int32)} {c_isLeftLaid : Int32} {c_game : (Nat → Int32)} {c_rows : Int32} {c_columns : Int32} {c_isFound : Int32} {c_bestValue : Int64} {c_bestBelow : Int64} {c_bestShare : (Nat → Int64)} {c_share : (Nat → Int64)} {c_matrix : (Nat → Int64)} {c_system : (Nat → Int64)} {c_shares : (Nat → Int32)} {c_allShares : Int32} {v : Int32} (hX : xIs (j10_byteAt) X ((some .int)) (some (.int v)) (hM c_thrown c_told c_read c_many c_eights c_gains c_notes c_seen c_turns c_drawn c_state c_tape c_taped c_size c_from c_next c_token c_value c_fault c_number c_fives c_isLeft c_wentTimes c_goes c_isLeftLaid c_game c_rows c_columns c_isFound c_bestValue c_bestBelow c_bestShare c_share c_matrix c_system c_shares c_allShares)) (hf : F10_byteAt x1 c_tape c_size = some v) : xV (j10_byteAt) X 0 0 (hM c_thrown c_told c_read c_many c_eights c_gains c_notes c_seen c_turns c_drawn c_state c_tape c_taped c_size c_from c_next c_token c_value c_fault c_number c_fives c_isLeft c_wentTimes c_goes c_isLeftLaid c_game c_rows c_columns c_isFound c_bestValue c_bestBelow c_bestShare c_share c_matrix c_system c_shares c_allShares) 0 [(0, .ref 0), (1, .int x1)] [] := by
  unfold F10_byteAt at hf
  refine xV_iload_n 1 rfl dX10_byteAt_0 rfl 1 rfl ?_
  refine xV_aload_n 2 rfl dX10_byteAt_1 rfl 0 rfl ?_
  refine xV_get (v := .int c_size) 5 rfl dX10_byteAt_2 f10_129 rfl rfl ?_
  refine xV_icmp_ge (tgt := 21) 8 rfl dX10_byteAt_5 (by decide) (fun h5 => ?_) (fun h5 => ?_)
  · have hf := xif_t hf h5
    refine xV_iconst 22 rfl dX10_byteAt_21 xk_im1 ?_
    obtain rfl := Option.some.inj hf
    exact xV_iret hX dX10_byteAt_22 rfl (Nat.zero_le _) (Nat.zero_le _)
  · have hf := xif_f hf h5
    refine xV_aload_n 9 rfl dX10_byteAt_8 rfl 0 rfl ?_
    refine xV_get (v := .ref 10) 12 rfl dX10_byteAt_9 f10_45 rfl rfl ?_
    refine xV_iload_n 13 rfl dX10_byteAt_12 rfl 1 rfl ?_
    obtain ⟨hg13, hf⟩ := xg_s hf
    refine xV_baload 14 rfl dX10_byteAt_13 rfl (xin_ok hg13) rfl ?_
    refine xV_sipush 17 rfl dX10_byteAt_14 xk_s255 ?_
    refine xV_iand 18 rfl dX10_byteAt_17 ?_
    refine xV_goto (tgt := 22) dX10_byteAt_18 (by decide) ?_
    obtain rfl := Option.some.inj hf
    exact xV_iret hX dX10_byteAt_22 rfl (Nat.zero_le _) (Nat.zero_le _)
theorem C10_byteAt (l : Launch) {x1 : Int32} {c_tape : (Nat → Int32)} {c_size : Int32} {c_thrown : Int32} {c_told : (Nat → Int32)} {c_read : (Nat → Int32)} {c_many : (Nat → Int32)} {c_eights : (Nat → Int32)} {c_gains : (Nat → Int32)} {c_notes : (Nat → Int32)} {c_seen : (Nat → Int32)} {c_turns : (Nat → Int32)} {c_drawn : (Nat → Int32)} {c_state : Int32} {c_taped : Int32} {c_from : Int32} {c_next : Int32} {c_token : Int32} {c_value : Int32} {c_fault : Int32} {c_number : Int32} {c_fives : (Nat → Int32)} {c_isLeft : (Nat → Int32)} {c_wentTimes : Int32} {c_goes : (Nat → Int32)} {c_isLeftLaid : Int32} {c_game : (Nat → Int32)} {c_rows : Int32} {c_columns : Int32} {c_isFound : Int32} {c_bestValue : Int64} {c_bestBelow : Int64} {c_bestShare : (Nat → Int64)} {c_share : (Nat → Int64)} {c_matrix : (Nat → Int64)} {c_system : (Nat → Int64)} {c_shares : (Nat → Int32)} {c_allShares : Int32} {v : Int32} (hf : F10_byteAt x1 c_tape c_size = some v) : xCt l yX10_byteAt ((some .int)) j10_byteAt [.ref 0, .int x1] (hM c_thrown c_told c_read c_many c_eights c_gains c_notes c_seen c_turns c_drawn c_state c_tape c_taped c_size c_from c_next c_token c_value c_fault c_number c_fives c_isLeft c_wentTimes c_goes c_isLeftLaid c_game c_rows c_columns c_isFound c_bestValue c_bestBelow c_bestShare c_share c_matrix c_system c_shares c_allShares) (some (.int v)) (hM c_thrown c_told c_read c_many c_eights c_gains c_notes c_seen c_turns c_drawn c_state c_tape c_taped c_size c_from c_next c_token c_value c_fault c_number c_fives c_isLeft c_wentTimes c_goes c_isLeftLaid c_game c_rows c_columns c_isFound c_bestValue c_bestBelow c_bestShare c_share c_matrix c_system c_shares c_allShares) := xCt_of (by decide) rfl (Nat.le_of_ble_eq_true rfl) (fun _ hX => T10_byteAt hX hf)
theorem m10_byteAt : xMd yX10_byteAt RX10 ((some .int)) j10_byteAt 1 := ⟨List.mem_of_getElem? (i := 425) (by decide +kernel), List.mem_of_getElem? (i := 5) (by decide +kernel), rfl, by decide +kernel⟩
theorem v10_byteAt : xMv yX10_byteAt RX10 := ⟨List.mem_of_getElem? (i := 423) (by decide +kernel), List.mem_of_getElem? (i := 424) (by decide +kernel)⟩
theorem xk_b32 : (Int8.ofInt (32)).toInt32 = (32 : Int32) := by decide
theorem xk_b10 : (Int8.ofInt (10)).toInt32 = (10 : Int32) := by decide
theorem xk_b97 : (Int8.ofInt (97)).toInt32 = (97 : Int32) := by decide
theorem xk_b122 : (Int8.ofInt (122)).toInt32 = (122 : Int32) := by decide
theorem xk_b48 : (Int8.ofInt (48)).toInt32 = (48 : Int32) := by decide
theorem xk_b57 : (Int8.ofInt (57)).toInt32 = (57 : Int32) := by decide
theorem xk_i4 : Int32.ofInt (4) = (4 : Int32) := by decide
theorem xk_b59 : (Int8.ofInt (59)).toInt32 = (59 : Int32) := by decide
theorem f10_132 : xFl RX10 132 10 15 := ⟨_, rfl, by decide, List.mem_of_getElem? (i := 410) (by decide +kernel)⟩
theorem k10_135 : Cond.methodLink RX10 135 yX10_byteAt ∈ wsL_law0 := List.mem_of_getElem? (i := 422) (by decide +kernel)
theorem nf10_15 : ∀ q : vw_C, vwCl[10]? = some q → (q.2.1 15).2.2.2 = false := fun q e => by cases e; rfl
theorem f10_138 : xFl RX10 138 10 14 := ⟨_, rfl, by decide, List.mem_of_getElem? (i := 420) (by decide +kernel)⟩
theorem nf10_14 : ∀ q : vw_C, vwCl[10]? = some q → (q.2.1 14).2.2.2 = false := fun q e => by cases e; rfl
theorem f10_141 : xFl RX10 141 10 16 := ⟨_, rfl, by decide, List.mem_of_getElem? (i := 412) (by decide +kernel)⟩
theorem nf10_16 : ∀ q : vw_C, vwCl[10]? = some q → (q.2.1 16).2.2.2 = false := fun q e => by cases e; rfl
theorem f10_144 : xFl RX10 144 10 17 := ⟨_, rfl, by decide, List.mem_of_getElem? (i := 421) (by decide +kernel)⟩
theorem nf10_17 : ∀ q : vw_C, vwCl[10]? = some q → (q.2.1 17).2.2.2 = false := fun q e => by cases e; rfl
theorem dX10_go_0 : decode cX10_go 0 = .ok (.aload_n 0, 1) := by decide +kernel
theorem dX10_go_1 : decode cX10_go 1 = .ok (.aload_n 0, 1) := by decide +kernel
theorem dX10_go_2 : decode cX10_go 2 = .ok (.getfield 132, 3) := by decide +kernel
theorem dX10_go_5 : decode cX10_go 5 = .ok (.invokevirtual 135, 3) := by decide +kernel
theorem dX10_go_8 : decode cX10_go 8 = .ok (.bipush 32, 2) := by decide +kernel
theorem dX10_go_10 : decode cX10_go 10 = .ok (.if_icmp .eq 16, 3) := by decide +kernel
theorem dX10_go_13 : decode cX10_go 13 = .ok (.aload_n 0, 1) := by decide +kernel
theorem dX10_go_14 : decode cX10_go 14 = .ok (.aload_n 0, 1) := by decide +kernel
theorem dX10_go_15 : decode cX10_go 15 = .ok (.getfield 132, 3) := by decide +kernel
theorem dX10_go_18 : decode cX10_go 18 = .ok (.invokevirtual 135, 3) := by decide +kernel
theorem dX10_go_21 : decode cX10_go 21 = .ok (.bipush 10, 2) := by decide +kernel
theorem dX10_go_23 : decode cX10_go 23 = .ok (.if_icmp .ne 16, 3) := by decide +kernel
theorem dX10_go_26 : decode cX10_go 26 = .ok (.aload_n 0, 1) := by decide +kernel
theorem dX10_go_27 : decode cX10_go 27 = .ok (.dup, 1) := by decide +kernel
theorem dX10_go_28 : decode cX10_go 28 = .ok (.getfield 132, 3) := by decide +kernel
theorem dX10_go_31 : decode cX10_go 31 = .ok (.iconst 1, 1) := by decide +kernel
theorem dX10_go_32 : decode cX10_go 32 = .ok (.iadd, 1) := by decide +kernel
theorem dX10_go_33 : decode cX10_go 33 = .ok (.putfield 132, 3) := by decide +kernel
theorem dX10_go_36 : decode cX10_go 36 = .ok (.goto (-36), 3) := by decide +kernel
theorem dX10_go_39 : decode cX10_go 39 = .ok (.aload_n 0, 1) := by decide +kernel
theorem dX10_go_40 : decode cX10_go 40 = .ok (.aload_n 0, 1) := by decide +kernel
theorem dX10_go_41 : decode cX10_go 41 = .ok (.getfield 132, 3) := by decide +kernel
theorem dX10_go_44 : decode cX10_go 44 = .ok (.putfield 138, 3) := by decide +kernel
theorem dX10_go_47 : decode cX10_go 47 = .ok (.aload_n 0, 1) := by decide +kernel
theorem dX10_go_48 : decode cX10_go 48 = .ok (.aload_n 0, 1) := by decide +kernel
theorem dX10_go_49 : decode cX10_go 49 = .ok (.getfield 132, 3) := by decide +kernel
theorem dX10_go_52 : decode cX10_go 52 = .ok (.invokevirtual 135, 3) := by decide +kernel
theorem dX10_go_55 : decode cX10_go 55 = .ok (.istore_n 1, 1) := by decide +kernel
theorem dX10_go_56 : decode cX10_go 56 = .ok (.iload_n 1, 1) := by decide +kernel
theorem dX10_go_57 : decode cX10_go 57 = .ok (.ifCond .ge 11, 3) := by decide +kernel
theorem dX10_go_60 : decode cX10_go 60 = .ok (.aload_n 0, 1) := by decide +kernel
theorem dX10_go_61 : decode cX10_go 61 = .ok (.iconst 0, 1) := by decide +kernel
theorem dX10_go_62 : decode cX10_go 62 = .ok (.putfield 141, 3) := by decide +kernel
theorem dX10_go_65 : decode cX10_go 65 = .ok (.goto 193, 3) := by decide +kernel
theorem dX10_go_68 : decode cX10_go 68 = .ok (.iload_n 1, 1) := by decide +kernel
theorem dX10_go_69 : decode cX10_go 69 = .ok (.bipush 97, 2) := by decide +kernel
theorem dX10_go_71 : decode cX10_go 71 = .ok (.bipush 122, 2) := by decide +kernel
theorem dX10_go_73 : decode cX10_go 73 = .ok (.invokestatic 7, 3) := by decide +kernel
theorem dX10_go_76 : decode cX10_go 76 = .ok (.ifCond .eq 42, 3) := by decide +kernel
theorem dX10_go_79 : decode cX10_go 79 = .ok (.aload_n 0, 1) := by decide +kernel
theorem dX10_go_80 : decode cX10_go 80 = .ok (.aload_n 0, 1) := by decide +kernel
theorem dX10_go_81 : decode cX10_go 81 = .ok (.getfield 132, 3) := by decide +kernel
theorem dX10_go_84 : decode cX10_go 84 = .ok (.invokevirtual 135, 3) := by decide +kernel
theorem dX10_go_87 : decode cX10_go 87 = .ok (.bipush 97, 2) := by decide +kernel
theorem dX10_go_89 : decode cX10_go 89 = .ok (.bipush 122, 2) := by decide +kernel
theorem dX10_go_91 : decode cX10_go 91 = .ok (.invokestatic 7, 3) := by decide +kernel
theorem dX10_go_94 : decode cX10_go 94 = .ok (.ifCond .eq 16, 3) := by decide +kernel
theorem dX10_go_97 : decode cX10_go 97 = .ok (.aload_n 0, 1) := by decide +kernel
theorem dX10_go_98 : decode cX10_go 98 = .ok (.dup, 1) := by decide +kernel
theorem dX10_go_99 : decode cX10_go 99 = .ok (.getfield 132, 3) := by decide +kernel
theorem dX10_go_102 : decode cX10_go 102 = .ok (.iconst 1, 1) := by decide +kernel
theorem dX10_go_103 : decode cX10_go 103 = .ok (.iadd, 1) := by decide +kernel
theorem dX10_go_104 : decode cX10_go 104 = .ok (.putfield 132, 3) := by decide +kernel
theorem dX10_go_107 : decode cX10_go 107 = .ok (.goto (-28), 3) := by decide +kernel
theorem dX10_go_110 : decode cX10_go 110 = .ok (.aload_n 0, 1) := by decide +kernel
theorem dX10_go_111 : decode cX10_go 111 = .ok (.iconst 1, 1) := by decide +kernel
theorem dX10_go_112 : decode cX10_go 112 = .ok (.putfield 141, 3) := by decide +kernel
theorem dX10_go_115 : decode cX10_go 115 = .ok (.goto 143, 3) := by decide +kernel
theorem dX10_go_118 : decode cX10_go 118 = .ok (.iload_n 1, 1) := by decide +kernel
theorem dX10_go_119 : decode cX10_go 119 = .ok (.bipush 48, 2) := by decide +kernel
theorem dX10_go_121 : decode cX10_go 121 = .ok (.bipush 57, 2) := by decide +kernel
theorem dX10_go_123 : decode cX10_go 123 = .ok (.invokestatic 7, 3) := by decide +kernel
theorem dX10_go_126 : decode cX10_go 126 = .ok (.ifCond .eq 107, 3) := by decide +kernel
theorem dX10_go_129 : decode cX10_go 129 = .ok (.aload_n 0, 1) := by decide +kernel
theorem dX10_go_130 : decode cX10_go 130 = .ok (.iconst 0, 1) := by decide +kernel
theorem dX10_go_131 : decode cX10_go 131 = .ok (.putfield 144, 3) := by decide +kernel
theorem dX10_go_134 : decode cX10_go 134 = .ok (.aload_n 0, 1) := by decide +kernel
theorem dX10_go_135 : decode cX10_go 135 = .ok (.aload_n 0, 1) := by decide +kernel
theorem dX10_go_136 : decode cX10_go 136 = .ok (.getfield 132, 3) := by decide +kernel
theorem dX10_go_139 : decode cX10_go 139 = .ok (.invokevirtual 135, 3) := by decide +kernel
theorem dX10_go_142 : decode cX10_go 142 = .ok (.bipush 48, 2) := by decide +kernel
theorem dX10_go_144 : decode cX10_go 144 = .ok (.bipush 57, 2) := by decide +kernel
theorem dX10_go_146 : decode cX10_go 146 = .ok (.invokestatic 7, 3) := by decide +kernel
theorem dX10_go_149 : decode cX10_go 149 = .ok (.ifCond .eq 59, 3) := by decide +kernel
theorem dX10_go_152 : decode cX10_go 152 = .ok (.aload_n 0, 1) := by decide +kernel
theorem dX10_go_153 : decode cX10_go 153 = .ok (.aload_n 0, 1) := by decide +kernel
theorem dX10_go_154 : decode cX10_go 154 = .ok (.getfield 132, 3) := by decide +kernel
theorem dX10_go_157 : decode cX10_go 157 = .ok (.aload_n 0, 1) := by decide +kernel
theorem dX10_go_158 : decode cX10_go 158 = .ok (.getfield 138, 3) := by decide +kernel
theorem dX10_go_161 : decode cX10_go 161 = .ok (.isub, 1) := by decide +kernel
theorem dX10_go_162 : decode cX10_go 162 = .ok (.iconst 4, 1) := by decide +kernel
theorem dX10_go_163 : decode cX10_go 163 = .ok (.if_icmp .ge 25, 3) := by decide +kernel
theorem dX10_go_166 : decode cX10_go 166 = .ok (.bipush 10, 2) := by decide +kernel
theorem dX10_go_168 : decode cX10_go 168 = .ok (.aload_n 0, 1) := by decide +kernel
theorem dX10_go_169 : decode cX10_go 169 = .ok (.getfield 144, 3) := by decide +kernel
theorem dX10_go_172 : decode cX10_go 172 = .ok (.imul, 1) := by decide +kernel
theorem dX10_go_173 : decode cX10_go 173 = .ok (.aload_n 0, 1) := by decide +kernel
theorem dX10_go_174 : decode cX10_go 174 = .ok (.aload_n 0, 1) := by decide +kernel
theorem dX10_go_175 : decode cX10_go 175 = .ok (.getfield 132, 3) := by decide +kernel
theorem dX10_go_178 : decode cX10_go 178 = .ok (.invokevirtual 135, 3) := by decide +kernel
theorem dX10_go_181 : decode cX10_go 181 = .ok (.iadd, 1) := by decide +kernel
theorem dX10_go_182 : decode cX10_go 182 = .ok (.bipush 48, 2) := by decide +kernel
theorem dX10_go_184 : decode cX10_go 184 = .ok (.isub, 1) := by decide +kernel
theorem dX10_go_185 : decode cX10_go 185 = .ok (.goto 7, 3) := by decide +kernel
theorem dX10_go_188 : decode cX10_go 188 = .ok (.aload_n 0, 1) := by decide +kernel
theorem dX10_go_189 : decode cX10_go 189 = .ok (.getfield 144, 3) := by decide +kernel
theorem dX10_go_192 : decode cX10_go 192 = .ok (.putfield 144, 3) := by decide +kernel
theorem dX10_go_195 : decode cX10_go 195 = .ok (.aload_n 0, 1) := by decide +kernel
theorem dX10_go_196 : decode cX10_go 196 = .ok (.dup, 1) := by decide +kernel
theorem dX10_go_197 : decode cX10_go 197 = .ok (.getfield 132, 3) := by decide +kernel
theorem dX10_go_200 : decode cX10_go 200 = .ok (.iconst 1, 1) := by decide +kernel
theorem dX10_go_201 : decode cX10_go 201 = .ok (.iadd, 1) := by decide +kernel
theorem dX10_go_202 : decode cX10_go 202 = .ok (.putfield 132, 3) := by decide +kernel
theorem dX10_go_205 : decode cX10_go 205 = .ok (.goto (-71), 3) := by decide +kernel
theorem dX10_go_208 : decode cX10_go 208 = .ok (.aload_n 0, 1) := by decide +kernel
theorem dX10_go_209 : decode cX10_go 209 = .ok (.aload_n 0, 1) := by decide +kernel
theorem dX10_go_210 : decode cX10_go 210 = .ok (.getfield 132, 3) := by decide +kernel
theorem dX10_go_213 : decode cX10_go 213 = .ok (.aload_n 0, 1) := by decide +kernel
theorem dX10_go_214 : decode cX10_go 214 = .ok (.getfield 138, 3) := by decide +kernel
theorem dX10_go_217 : decode cX10_go 217 = .ok (.isub, 1) := by decide +kernel
theorem dX10_go_218 : decode cX10_go 218 = .ok (.iconst 5, 1) := by decide +kernel
theorem dX10_go_219 : decode cX10_go 219 = .ok (.if_icmp .ge 7, 3) := by decide +kernel
theorem dX10_go_222 : decode cX10_go 222 = .ok (.iconst 2, 1) := by decide +kernel
theorem dX10_go_223 : decode cX10_go 223 = .ok (.goto 4, 3) := by decide +kernel
theorem dX10_go_226 : decode cX10_go 226 = .ok (.iconst 4, 1) := by decide +kernel
theorem dX10_go_227 : decode cX10_go 227 = .ok (.putfield 141, 3) := by decide +kernel
theorem dX10_go_230 : decode cX10_go 230 = .ok (.goto 28, 3) := by decide +kernel
theorem dX10_go_233 : decode cX10_go 233 = .ok (.aload_n 0, 1) := by decide +kernel
theorem dX10_go_234 : decode cX10_go 234 = .ok (.dup, 1) := by decide +kernel
theorem dX10_go_235 : decode cX10_go 235 = .ok (.getfield 132, 3) := by decide +kernel
theorem dX10_go_238 : decode cX10_go 238 = .ok (.iconst 1, 1) := by decide +kernel
theorem dX10_go_239 : decode cX10_go 239 = .ok (.iadd, 1) := by decide +kernel
theorem dX10_go_240 : decode cX10_go 240 = .ok (.putfield 132, 3) := by decide +kernel
theorem dX10_go_243 : decode cX10_go 243 = .ok (.aload_n 0, 1) := by decide +kernel
theorem dX10_go_244 : decode cX10_go 244 = .ok (.iload_n 1, 1) := by decide +kernel
theorem dX10_go_245 : decode cX10_go 245 = .ok (.bipush 59, 2) := by decide +kernel
theorem dX10_go_247 : decode cX10_go 247 = .ok (.if_icmp .ne 7, 3) := by decide +kernel
theorem dX10_go_250 : decode cX10_go 250 = .ok (.iconst 3, 1) := by decide +kernel
theorem dX10_go_251 : decode cX10_go 251 = .ok (.goto 4, 3) := by decide +kernel
theorem dX10_go_254 : decode cX10_go 254 = .ok (.iconst 4, 1) := by decide +kernel
theorem dX10_go_255 : decode cX10_go 255 = .ok (.putfield 141, 3) := by decide +kernel
theorem dX10_go_258 : decode cX10_go 258 = .ok (.return_, 1) := by decide +kernel
abbrev j10_go : xJ := (cX10_go, 2, RX10, 2, 0, 0)
def F10_go_b26 (z : Nat) (c_tape : (Nat → Int32)) (c_size : Int32) (c_from : Int32) (c_next : Int32) (c_token : Int32) (c_value : Int32) (k0 : (Nat → Int32) → Int32 → Int32 → Int32 → Int32 → Int32 → Option (Int32 × Int32 × Int32 × Int32)) : Option (Int32 × Int32 × Int32 × Int32) :=
  k0 c_tape c_size c_from (c_next + (1 : Int32)) c_token c_value
theorem T10_go_b26 {X : xX} {c_thrown : Int32} {c_told : (Nat → Int32)} {c_read : (Nat → Int32)} {c_many : (Nat → Int32)} {c_eights : (Nat → Int32)} {c_gains : (Nat → Int32)} {c_notes : (Nat → Int32)} {c_seen : (Nat → Int32)} {c_turns : (Nat → Int32)} {c_drawn : (Nat → Int32)} {c_state : Int32} {c_taped : Int32} {c_fault : Int32} {c_number : Int32} {c_fives : (Nat → Int32)} {c_isLeft : (Nat → Int32)} {c_wentTimes : Int32} {c_goes : (Nat → Int32)} {c_isLeftLaid : Int32} {c_game : (Nat → Int32)} {c_rows : Int32} {c_columns : Int32} {c_isFound : Int32} {c_bestValue : Int64} {c_bestBelow : Int64} {c_bestShare : (Nat → Int64)} {c_share : (Nat → Int64)} {c_matrix : (Nat → Int64)} {c_system : (Nat → Int64)} {c_shares : (Nat → Int32)} {c_allShares : Int32} {c_tape : (Nat → Int32)} {c_size : Int32} {c_from : Int32} {c_next : Int32} {c_token : Int32} {c_value : Int32} {z : Nat} {v : Int32 × Int32 × Int32 × Int32} {k0 : (Nat → Int32) → Int32 → Int32 → Int32 → Int32 → Int32 → Option (Int32 × Int32 × Int32 × Int32)} (hX : xIs (j10_go) X none none (hM c_thrown c_told c_read c_many c_eights c_gains c_notes c_seen c_turns c_drawn c_state c_tape c_taped c_size v.1 v.2.1 v.2.2.1 v.2.2.2 c_fault c_number c_fives c_isLeft c_wentTimes c_goes c_isLeftLaid c_game c_rows c_columns c_isFound c_bestValue c_bestBelow c_bestShare c_share c_matrix c_system c_shares c_allShares)) (hk0 : ∀ {c_from : Int32} {c_next : Int32} {c_token : Int32} {c_value : Int32}, k0 c_tape c_size c_from c_next c_token c_value = some v → xV (j10_go) X 0 0 (hM c_thrown c_told c_read c_many c_eights c_gains c_notes c_seen c_turns c_drawn c_state c_tape c_taped c_size c_from c_next c_token c_value c_fault c_number c_fives c_isLeft c_wentTimes c_goes c_isLeftLaid c_game c_rows c_columns c_isFound c_bestValue c_bestBelow c_bestShare c_share c_matrix c_system c_shares c_allShares) 0 [(0, .ref 0)] []) (hf : F10_go_b26 z c_tape c_size c_from c_next c_token c_value k0 = some v) : xV (j10_go) X 0 0 (hM c_thrown c_told c_read c_many c_eights c_gains c_notes c_seen c_turns c_drawn c_state c_tape c_taped c_size c_from c_next c_token c_value c_fault c_number c_fives c_isLeft c_wentTimes c_goes c_isLeftLaid c_game c_rows c_columns c_isFound c_bestValue c_bestBelow c_bestShare c_share c_matrix c_system c_shares c_allShares) 26 [(0, .ref 0)] [] := by
  unfold F10_go_b26 at hf
  refine xV_aload_n 27 rfl dX10_go_26 rfl 0 rfl ?_
  refine xV_dup 28 rfl dX10_go_27 rfl ?_
  refine xV_get (v := .int c_next) 31 rfl dX10_go_28 f10_132 rfl rfl ?_
  refine xV_iconst 32 rfl dX10_go_31 xk_i1 ?_
  refine xV_iadd 33 rfl dX10_go_32 ?_
  refine xV_put (h' := (hM c_thrown c_told c_read c_many c_eights c_gains c_notes c_seen c_turns c_drawn c_state c_tape c_taped c_size c_from (c_next + (1 : Int32)) c_token c_value c_fault c_number c_fives c_isLeft c_wentTimes c_goes c_isLeftLaid c_game c_rows c_columns c_isFound c_bestValue c_bestBelow c_bestShare c_share c_matrix c_system c_shares c_allShares)) 36 rfl dX10_go_33 f10_132 rfl nf10_15 (fun _ => rfl) (fun _ => rfl) (Nat.le_of_ble_eq_true rfl) rfl ?_
  refine xV_goto (tgt := 0) dX10_go_36 (by decide) ?_
  exact hk0 hf
def F10_go_b255 (z : Nat) (s1 : Int32) (c_tape : (Nat → Int32)) (c_size : Int32) (c_from : Int32) (c_next : Int32) (c_token : Int32) (c_value : Int32) : Option (Int32 × Int32 × Int32 × Int32) :=
  some (c_from, c_next, s1, c_value)
theorem T10_go_b255 {X : xX} {c_thrown : Int32} {c_told : (Nat → Int32)} {c_read : (Nat → Int32)} {c_many : (Nat → Int32)} {c_eights : (Nat → Int32)} {c_gains : (Nat → Int32)} {c_notes : (Nat → Int32)} {c_seen : (Nat → Int32)} {c_turns : (Nat → Int32)} {c_drawn : (Nat → Int32)} {c_state : Int32} {c_taped : Int32} {c_fault : Int32} {c_number : Int32} {c_fives : (Nat → Int32)} {c_isLeft : (Nat → Int32)} {c_wentTimes : Int32} {c_goes : (Nat → Int32)} {c_isLeftLaid : Int32} {c_game : (Nat → Int32)} {c_rows : Int32} {c_columns : Int32} {c_isFound : Int32} {c_bestValue : Int64} {c_bestBelow : Int64} {c_bestShare : (Nat → Int64)} {c_share : (Nat → Int64)} {c_matrix : (Nat → Int64)} {c_system : (Nat → Int64)} {c_shares : (Nat → Int32)} {c_allShares : Int32} {s1 : Int32} {c_tape : (Nat → Int32)} {c_size : Int32} {c_from : Int32} {c_next : Int32} {c_token : Int32} {c_value : Int32} {z : Nat} {v : Int32 × Int32 × Int32 × Int32} (hX : xIs (j10_go) X none none (hM c_thrown c_told c_read c_many c_eights c_gains c_notes c_seen c_turns c_drawn c_state c_tape c_taped c_size v.1 v.2.1 v.2.2.1 v.2.2.2 c_fault c_number c_fives c_isLeft c_wentTimes c_goes c_isLeftLaid c_game c_rows c_columns c_isFound c_bestValue c_bestBelow c_bestShare c_share c_matrix c_system c_shares c_allShares)) (hf : F10_go_b255 z s1 c_tape c_size c_from c_next c_token c_value = some v) : xV (j10_go) X 0 0 (hM c_thrown c_told c_read c_many c_eights c_gains c_notes c_seen c_turns c_drawn c_state c_tape c_taped c_size c_from c_next c_token c_value c_fault c_number c_fives c_isLeft c_wentTimes c_goes c_isLeftLaid c_game c_rows c_columns c_isFound c_bestValue c_bestBelow c_bestShare c_share c_matrix c_system c_shares c_allShares) 255 [] [.int s1, .ref 0] := by
  unfold F10_go_b255 at hf
  refine xV_put (h' := (hM c_thrown c_told c_read c_many c_eights c_gains c_notes c_seen c_turns c_drawn c_state c_tape c_taped c_size c_from c_next s1 c_value c_fault c_number c_fives c_isLeft c_wentTimes c_goes c_isLeftLaid c_game c_rows c_columns c_isFound c_bestValue c_bestBelow c_bestShare c_share c_matrix c_system c_shares c_allShares)) 258 rfl dX10_go_255 f10_141 rfl nf10_16 (fun _ => rfl) (fun _ => rfl) (Nat.le_of_ble_eq_true rfl) rfl ?_
  obtain rfl := Option.some.inj hf
  exact xV_vret hX dX10_go_258 (Nat.zero_le _) (Nat.zero_le _)
def F10_go_b227 (z : Nat) (s1 : Int32) (c_tape : (Nat → Int32)) (c_size : Int32) (c_from : Int32) (c_next : Int32) (c_token : Int32) (c_value : Int32) : Option (Int32 × Int32 × Int32 × Int32) :=
  some (c_from, c_next, s1, c_value)
theorem T10_go_b227 {X : xX} {c_thrown : Int32} {c_told : (Nat → Int32)} {c_read : (Nat → Int32)} {c_many : (Nat → Int32)} {c_eights : (Nat → Int32)} {c_gains : (Nat → Int32)} {c_notes : (Nat → Int32)} {c_seen : (Nat → Int32)} {c_turns : (Nat → Int32)} {c_drawn : (Nat → Int32)} {c_state : Int32} {c_taped : Int32} {c_fault : Int32} {c_number : Int32} {c_fives : (Nat → Int32)} {c_isLeft : (Nat → Int32)} {c_wentTimes : Int32} {c_goes : (Nat → Int32)} {c_isLeftLaid : Int32} {c_game : (Nat → Int32)} {c_rows : Int32} {c_columns : Int32} {c_isFound : Int32} {c_bestValue : Int64} {c_bestBelow : Int64} {c_bestShare : (Nat → Int64)} {c_share : (Nat → Int64)} {c_matrix : (Nat → Int64)} {c_system : (Nat → Int64)} {c_shares : (Nat → Int32)} {c_allShares : Int32} {s1 : Int32} {c_tape : (Nat → Int32)} {c_size : Int32} {c_from : Int32} {c_next : Int32} {c_token : Int32} {c_value : Int32} {z : Nat} {v : Int32 × Int32 × Int32 × Int32} (hX : xIs (j10_go) X none none (hM c_thrown c_told c_read c_many c_eights c_gains c_notes c_seen c_turns c_drawn c_state c_tape c_taped c_size v.1 v.2.1 v.2.2.1 v.2.2.2 c_fault c_number c_fives c_isLeft c_wentTimes c_goes c_isLeftLaid c_game c_rows c_columns c_isFound c_bestValue c_bestBelow c_bestShare c_share c_matrix c_system c_shares c_allShares)) (hf : F10_go_b227 z s1 c_tape c_size c_from c_next c_token c_value = some v) : xV (j10_go) X 0 0 (hM c_thrown c_told c_read c_many c_eights c_gains c_notes c_seen c_turns c_drawn c_state c_tape c_taped c_size c_from c_next c_token c_value c_fault c_number c_fives c_isLeft c_wentTimes c_goes c_isLeftLaid c_game c_rows c_columns c_isFound c_bestValue c_bestBelow c_bestShare c_share c_matrix c_system c_shares c_allShares) 227 [] [.int s1, .ref 0] := by
  unfold F10_go_b227 at hf
  refine xV_put (h' := (hM c_thrown c_told c_read c_many c_eights c_gains c_notes c_seen c_turns c_drawn c_state c_tape c_taped c_size c_from c_next s1 c_value c_fault c_number c_fives c_isLeft c_wentTimes c_goes c_isLeftLaid c_game c_rows c_columns c_isFound c_bestValue c_bestBelow c_bestShare c_share c_matrix c_system c_shares c_allShares)) 230 rfl dX10_go_227 f10_141 rfl nf10_16 (fun _ => rfl) (fun _ => rfl) (Nat.le_of_ble_eq_true rfl) rfl ?_
  refine xV_goto (tgt := 258) dX10_go_230 (by decide) ?_
  obtain rfl := Option.some.inj hf
  exact xV_vret hX dX10_go_258 (Nat.zero_le _) (Nat.zero_le _)
def F10_go_b208 (z : Nat) (c_tape : (Nat → Int32)) (c_size : Int32) (c_from : Int32) (c_next : Int32) (c_token : Int32) (c_value : Int32) : Option (Int32 × Int32 × Int32 × Int32) :=
  if (5 : Int32) ≤ (c_next - c_from) then (F10_go_b227 z (4 : Int32) c_tape c_size c_from c_next c_token c_value) else (F10_go_b227 z (2 : Int32) c_tape c_size c_from c_next c_token c_value)
theorem T10_go_b208 {X : xX} {c_thrown : Int32} {c_told : (Nat → Int32)} {c_read : (Nat → Int32)} {c_many : (Nat → Int32)} {c_eights : (Nat → Int32)} {c_gains : (Nat → Int32)} {c_notes : (Nat → Int32)} {c_seen : (Nat → Int32)} {c_turns : (Nat → Int32)} {c_drawn : (Nat → Int32)} {c_state : Int32} {c_taped : Int32} {c_fault : Int32} {c_number : Int32} {c_fives : (Nat → Int32)} {c_isLeft : (Nat → Int32)} {c_wentTimes : Int32} {c_goes : (Nat → Int32)} {c_isLeftLaid : Int32} {c_game : (Nat → Int32)} {c_rows : Int32} {c_columns : Int32} {c_isFound : Int32} {c_bestValue : Int64} {c_bestBelow : Int64} {c_bestShare : (Nat → Int64)} {c_share : (Nat → Int64)} {c_matrix : (Nat → Int64)} {c_system : (Nat → Int64)} {c_shares : (Nat → Int32)} {c_allShares : Int32} {c_tape : (Nat → Int32)} {c_size : Int32} {c_from : Int32} {c_next : Int32} {c_token : Int32} {c_value : Int32} {z : Nat} {v : Int32 × Int32 × Int32 × Int32} (hX : xIs (j10_go) X none none (hM c_thrown c_told c_read c_many c_eights c_gains c_notes c_seen c_turns c_drawn c_state c_tape c_taped c_size v.1 v.2.1 v.2.2.1 v.2.2.2 c_fault c_number c_fives c_isLeft c_wentTimes c_goes c_isLeftLaid c_game c_rows c_columns c_isFound c_bestValue c_bestBelow c_bestShare c_share c_matrix c_system c_shares c_allShares)) (hf : F10_go_b208 z c_tape c_size c_from c_next c_token c_value = some v) : xV (j10_go) X 0 0 (hM c_thrown c_told c_read c_many c_eights c_gains c_notes c_seen c_turns c_drawn c_state c_tape c_taped c_size c_from c_next c_token c_value c_fault c_number c_fives c_isLeft c_wentTimes c_goes c_isLeftLaid c_game c_rows c_columns c_isFound c_bestValue c_bestBelow c_bestShare c_share c_matrix c_system c_shares c_allShares) 208 [(0, .ref 0)] [] := by
  unfold F10_go_b208 at hf
  refine xV_aload_n 209 rfl dX10_go_208 rfl 0 rfl ?_
  refine xV_aload_n 210 rfl dX10_go_209 rfl 0 rfl ?_
  refine xV_get (v := .int c_next) 213 rfl dX10_go_210 f10_132 rfl rfl ?_
  refine xV_aload_n 214 rfl dX10_go_213 rfl 0 rfl ?_
  refine xV_get (v := .int c_from) 217 rfl dX10_go_214 f10_138 rfl rfl ?_
  refine xV_isub 218 rfl dX10_go_217 ?_
  refine xV_iconst 219 rfl dX10_go_218 xk_i5 ?_
  refine xV_icmp_ge (tgt := 226) 222 rfl dX10_go_219 (by decide) (fun h219 => ?_) (fun h219 => ?_)
  · have hf := xif_t hf h219
    refine xV_iconst 227 rfl dX10_go_226 xk_i4 ?_
    refine xV_sub [] rfl ?_
    exact T10_go_b227 hX hf
  · have hf := xif_f hf h219
    refine xV_iconst 223 rfl dX10_go_222 xk_i2 ?_
    refine xV_goto (tgt := 227) dX10_go_223 (by decide) ?_
    refine xV_sub [] rfl ?_
    exact T10_go_b227 hX hf
def F10_go_b192 (z : Nat) (s1 : Int32) (c_tape : (Nat → Int32)) (c_size : Int32) (c_from : Int32) (c_next : Int32) (c_token : Int32) (c_value : Int32) (k134 : (Nat → Int32) → Int32 → Int32 → Int32 → Int32 → Int32 → Option (Int32 × Int32 × Int32 × Int32)) : Option (Int32 × Int32 × Int32 × Int32) :=
  k134 c_tape c_size c_from (c_next + (1 : Int32)) c_token s1
theorem T10_go_b192 {X : xX} {c_thrown : Int32} {c_told : (Nat → Int32)} {c_read : (Nat → Int32)} {c_many : (Nat → Int32)} {c_eights : (Nat → Int32)} {c_gains : (Nat → Int32)} {c_notes : (Nat → Int32)} {c_seen : (Nat → Int32)} {c_turns : (Nat → Int32)} {c_drawn : (Nat → Int32)} {c_state : Int32} {c_taped : Int32} {c_fault : Int32} {c_number : Int32} {c_fives : (Nat → Int32)} {c_isLeft : (Nat → Int32)} {c_wentTimes : Int32} {c_goes : (Nat → Int32)} {c_isLeftLaid : Int32} {c_game : (Nat → Int32)} {c_rows : Int32} {c_columns : Int32} {c_isFound : Int32} {c_bestValue : Int64} {c_bestBelow : Int64} {c_bestShare : (Nat → Int64)} {c_share : (Nat → Int64)} {c_matrix : (Nat → Int64)} {c_system : (Nat → Int64)} {c_shares : (Nat → Int32)} {c_allShares : Int32} {s1 : Int32} {c_tape : (Nat → Int32)} {c_size : Int32} {c_from : Int32} {c_next : Int32} {c_token : Int32} {c_value : Int32} {z : Nat} {v : Int32 × Int32 × Int32 × Int32} {k134 : (Nat → Int32) → Int32 → Int32 → Int32 → Int32 → Int32 → Option (Int32 × Int32 × Int32 × Int32)} (hX : xIs (j10_go) X none none (hM c_thrown c_told c_read c_many c_eights c_gains c_notes c_seen c_turns c_drawn c_state c_tape c_taped c_size v.1 v.2.1 v.2.2.1 v.2.2.2 c_fault c_number c_fives c_isLeft c_wentTimes c_goes c_isLeftLaid c_game c_rows c_columns c_isFound c_bestValue c_bestBelow c_bestShare c_share c_matrix c_system c_shares c_allShares)) (hk134 : ∀ {c_from : Int32} {c_next : Int32} {c_token : Int32} {c_value : Int32}, k134 c_tape c_size c_from c_next c_token c_value = some v → xV (j10_go) X 0 0 (hM c_thrown c_told c_read c_many c_eights c_gains c_notes c_seen c_turns c_drawn c_state c_tape c_taped c_size c_from c_next c_token c_value c_fault c_number c_fives c_isLeft c_wentTimes c_goes c_isLeftLaid c_game c_rows c_columns c_isFound c_bestValue c_bestBelow c_bestShare c_share c_matrix c_system c_shares c_allShares) 134 [(0, .ref 0)] []) (hf : F10_go_b192 z s1 c_tape c_size c_from c_next c_token c_value k134 = some v) : xV (j10_go) X 0 0 (hM c_thrown c_told c_read c_many c_eights c_gains c_notes c_seen c_turns c_drawn c_state c_tape c_taped c_size c_from c_next c_token c_value c_fault c_number c_fives c_isLeft c_wentTimes c_goes c_isLeftLaid c_game c_rows c_columns c_isFound c_bestValue c_bestBelow c_bestShare c_share c_matrix c_system c_shares c_allShares) 192 [(0, .ref 0)] [.int s1, .ref 0] := by
  unfold F10_go_b192 at hf
  refine xV_put (h' := (hM c_thrown c_told c_read c_many c_eights c_gains c_notes c_seen c_turns c_drawn c_state c_tape c_taped c_size c_from c_next c_token s1 c_fault c_number c_fives c_isLeft c_wentTimes c_goes c_isLeftLaid c_game c_rows c_columns c_isFound c_bestValue c_bestBelow c_bestShare c_share c_matrix c_system c_shares c_allShares)) 195 rfl dX10_go_192 f10_144 rfl nf10_17 (fun _ => rfl) (fun _ => rfl) (Nat.le_of_ble_eq_true rfl) rfl ?_
  refine xV_aload_n 196 rfl dX10_go_195 rfl 0 rfl ?_
  refine xV_dup 197 rfl dX10_go_196 rfl ?_
  refine xV_get (v := .int c_next) 200 rfl dX10_go_197 f10_132 rfl rfl ?_
  refine xV_iconst 201 rfl dX10_go_200 xk_i1 ?_
  refine xV_iadd 202 rfl dX10_go_201 ?_
  refine xV_put (h' := (hM c_thrown c_told c_read c_many c_eights c_gains c_notes c_seen c_turns c_drawn c_state c_tape c_taped c_size c_from (c_next + (1 : Int32)) c_token s1 c_fault c_number c_fives c_isLeft c_wentTimes c_goes c_isLeftLaid c_game c_rows c_columns c_isFound c_bestValue c_bestBelow c_bestShare c_share c_matrix c_system c_shares c_allShares)) 205 rfl dX10_go_202 f10_132 rfl nf10_15 (fun _ => rfl) (fun _ => rfl) (Nat.le_of_ble_eq_true rfl) rfl ?_
  refine xV_goto (tgt := 134) dX10_go_205 (by decide) ?_
  exact hk134 hf
def F10_go_b134 (z : Nat) (w : Nat) (c_tape : (Nat → Int32)) (c_size : Int32) (c_from : Int32) (c_next : Int32) (c_token : Int32) (c_value : Int32) : Option (Int32 × Int32 × Int32 × Int32) := match w with
  | 0 => none
  | w + 1 => (F10_byteAt c_next c_tape c_size).bind (fun v139 => (F10_within v139 (48 : Int32) (57 : Int32)).bind (fun v146 => if v146 = 0 then (F10_go_b208 z c_tape c_size c_from c_next c_token c_value) else (if (4 : Int32) ≤ (c_next - c_from) then (F10_go_b192 z c_value c_tape c_size c_from c_next c_token c_value (fun q0 q1 q2 q3 q4 q5 => F10_go_b134 z w q0 q1 q2 q3 q4 q5)) else ((F10_byteAt c_next c_tape c_size).bind (fun v178 => F10_go_b192 z ((((10 : Int32) * c_value) + v178) - (48 : Int32)) c_tape c_size c_from c_next c_token c_value (fun q0 q1 q2 q3 q4 q5 => F10_go_b134 z w q0 q1 q2 q3 q4 q5))))))
theorem T10_go_b134 {X : xX} {c_thrown : Int32} {c_told : (Nat → Int32)} {c_read : (Nat → Int32)} {c_many : (Nat → Int32)} {c_eights : (Nat → Int32)} {c_gains : (Nat → Int32)} {c_notes : (Nat → Int32)} {c_seen : (Nat → Int32)} {c_turns : (Nat → Int32)} {c_drawn : (Nat → Int32)} {c_state : Int32} {c_tape : (Nat → Int32)} {c_taped : Int32} {c_size : Int32} {c_fault : Int32} {c_number : Int32} {c_fives : (Nat → Int32)} {c_isLeft : (Nat → Int32)} {c_wentTimes : Int32} {c_goes : (Nat → Int32)} {c_isLeftLaid : Int32} {c_game : (Nat → Int32)} {c_rows : Int32} {c_columns : Int32} {c_isFound : Int32} {c_bestValue : Int64} {c_bestBelow : Int64} {c_bestShare : (Nat → Int64)} {c_share : (Nat → Int64)} {c_matrix : (Nat → Int64)} {c_system : (Nat → Int64)} {c_shares : (Nat → Int32)} {c_allShares : Int32} {z : Nat} {v : Int32 × Int32 × Int32 × Int32} (hX : xIs (j10_go) X none none (hM c_thrown c_told c_read c_many c_eights c_gains c_notes c_seen c_turns c_drawn c_state c_tape c_taped c_size v.1 v.2.1 v.2.2.1 v.2.2.2 c_fault c_number c_fives c_isLeft c_wentTimes c_goes c_isLeftLaid c_game c_rows c_columns c_isFound c_bestValue c_bestBelow c_bestShare c_share c_matrix c_system c_shares c_allShares)) : ∀ (w : Nat) {c_from : Int32} {c_next : Int32} {c_token : Int32} {c_value : Int32}, F10_go_b134 z w c_tape c_size c_from c_next c_token c_value = some v → xV (j10_go) X 0 0 (hM c_thrown c_told c_read c_many c_eights c_gains c_notes c_seen c_turns c_drawn c_state c_tape c_taped c_size c_from c_next c_token c_value c_fault c_number c_fives c_isLeft c_wentTimes c_goes c_isLeftLaid c_game c_rows c_columns c_isFound c_bestValue c_bestBelow c_bestShare c_share c_matrix c_system c_shares c_allShares) 134 [(0, .ref 0)] [] := by
  intro w
  induction w with
  | zero => intro c_from c_next c_token c_value hf; cases hf
  | succ w ih =>
    intro c_from c_next c_token c_value hf
    unfold F10_go_b134 at hf
    refine xV_aload_n 135 rfl dX10_go_134 rfl 0 rfl ?_
    refine xV_aload_n 136 rfl dX10_go_135 rfl 0 rfl ?_
    refine xV_get (v := .int c_next) 139 rfl dX10_go_136 f10_132 rfl rfl ?_
    obtain ⟨v139, hv139, hf⟩ := xb_s hf
    refine xV_same (rest := []) 142 rfl dX10_go_139 rfl (C10_byteAt X.1.2.1 hv139) m10_byteAt v10_byteAt k10_135 rfl rfl rfl rfl rfl (Nat.le_of_ble_eq_true rfl) (Nat.le_of_ble_eq_true rfl) (Nat.le_of_ble_eq_true rfl) ⟨Nat.le_refl _, Nat.le_refl _⟩ ?_
    show xV (j10_go) X 0 0 (hM c_thrown c_told c_read c_many c_eights c_gains c_notes c_seen c_turns c_drawn c_state c_tape c_taped c_size c_from c_next c_token c_value c_fault c_number c_fives c_isLeft c_wentTimes c_goes c_isLeftLaid c_game c_rows c_columns c_isFound c_bestValue c_bestBelow c_bestShare c_share c_matrix c_system c_shares c_allShares) 142 [(0, .ref 0)] [.int v139]
    refine xV_bipush 144 rfl dX10_go_142 xk_b48 ?_
    refine xV_bipush 146 rfl dX10_go_144 xk_b57 ?_
    obtain ⟨v146, hv146, hf⟩ := xb_s hf
    refine xV_st0 (rest := []) 149 rfl dX10_go_146 rfl (C10_within X.1.2.1 hv146) m10_within s10_within k10_7 rfl (Nat.le_of_ble_eq_true rfl) (Nat.le_of_ble_eq_true rfl) (Nat.le_of_ble_eq_true rfl) ⟨Nat.le_refl _, Nat.le_refl _⟩ ?_
    show xV (j10_go) X 0 0 (hM c_thrown c_told c_read c_many c_eights c_gains c_notes c_seen c_turns c_drawn c_state c_tape c_taped c_size c_from c_next c_token c_value c_fault c_number c_fives c_isLeft c_wentTimes c_goes c_isLeftLaid c_game c_rows c_columns c_isFound c_bestValue c_bestBelow c_bestShare c_share c_matrix c_system c_shares c_allShares) 149 [(0, .ref 0)] [.int v146]
    refine xV_if_eq (tgt := 208) 152 rfl dX10_go_149 (by decide) (fun h149 => ?_) (fun h149 => ?_)
    · have hf := xif_t hf h149
      exact T10_go_b208 hX hf
    · have hf := xif_f hf h149
      refine xV_aload_n 153 rfl dX10_go_152 rfl 0 rfl ?_
      refine xV_aload_n 154 rfl dX10_go_153 rfl 0 rfl ?_
      refine xV_get (v := .int c_next) 157 rfl dX10_go_154 f10_132 rfl rfl ?_
      refine xV_aload_n 158 rfl dX10_go_157 rfl 0 rfl ?_
      refine xV_get (v := .int c_from) 161 rfl dX10_go_158 f10_138 rfl rfl ?_
      refine xV_isub 162 rfl dX10_go_161 ?_
      refine xV_iconst 163 rfl dX10_go_162 xk_i4 ?_
      refine xV_icmp_ge (tgt := 188) 166 rfl dX10_go_163 (by decide) (fun h163 => ?_) (fun h163 => ?_)
      · have hf := xif_t hf h163
        refine xV_aload_n 189 rfl dX10_go_188 rfl 0 rfl ?_
        refine xV_get (v := .int c_value) 192 rfl dX10_go_189 f10_144 rfl rfl ?_
        exact T10_go_b192 hX (fun {_ _ _ _} hq => ih hq) hf
      · have hf := xif_f hf h163
        refine xV_bipush 168 rfl dX10_go_166 xk_b10 ?_
        refine xV_aload_n 169 rfl dX10_go_168 rfl 0 rfl ?_
        refine xV_get (v := .int c_value) 172 rfl dX10_go_169 f10_144 rfl rfl ?_
        refine xV_imul 173 rfl dX10_go_172 ?_
        refine xV_aload_n 174 rfl dX10_go_173 rfl 0 rfl ?_
        refine xV_aload_n 175 rfl dX10_go_174 rfl 0 rfl ?_
        refine xV_get (v := .int c_next) 178 rfl dX10_go_175 f10_132 rfl rfl ?_
        obtain ⟨v178, hv178, hf⟩ := xb_s hf
        refine xV_same (rest := [.int ((10 : Int32) * c_value), .ref 0]) 181 rfl dX10_go_178 rfl (C10_byteAt X.1.2.1 hv178) m10_byteAt v10_byteAt k10_135 rfl rfl rfl rfl rfl (Nat.le_of_ble_eq_true rfl) (Nat.le_of_ble_eq_true rfl) (Nat.le_of_ble_eq_true rfl) ⟨Nat.le_refl _, Nat.le_refl _⟩ ?_
        show xV (j10_go) X 0 0 (hM c_thrown c_told c_read c_many c_eights c_gains c_notes c_seen c_turns c_drawn c_state c_tape c_taped c_size c_from c_next c_token c_value c_fault c_number c_fives c_isLeft c_wentTimes c_goes c_isLeftLaid c_game c_rows c_columns c_isFound c_bestValue c_bestBelow c_bestShare c_share c_matrix c_system c_shares c_allShares) 181 [(0, .ref 0)] [.int v178, .int ((10 : Int32) * c_value), .ref 0]
        refine xV_iadd 182 rfl dX10_go_181 ?_
        refine xV_bipush 184 rfl dX10_go_182 xk_b48 ?_
        refine xV_isub 185 rfl dX10_go_184 ?_
        refine xV_goto (tgt := 192) dX10_go_185 (by decide) ?_
        exact T10_go_b192 hX (fun {_ _ _ _} hq => ih hq) hf
def F10_go_b110 (z : Nat) (c_tape : (Nat → Int32)) (c_size : Int32) (c_from : Int32) (c_next : Int32) (c_token : Int32) (c_value : Int32) : Option (Int32 × Int32 × Int32 × Int32) :=
  some (c_from, c_next, (1 : Int32), c_value)
theorem T10_go_b110 {X : xX} {c_thrown : Int32} {c_told : (Nat → Int32)} {c_read : (Nat → Int32)} {c_many : (Nat → Int32)} {c_eights : (Nat → Int32)} {c_gains : (Nat → Int32)} {c_notes : (Nat → Int32)} {c_seen : (Nat → Int32)} {c_turns : (Nat → Int32)} {c_drawn : (Nat → Int32)} {c_state : Int32} {c_taped : Int32} {c_fault : Int32} {c_number : Int32} {c_fives : (Nat → Int32)} {c_isLeft : (Nat → Int32)} {c_wentTimes : Int32} {c_goes : (Nat → Int32)} {c_isLeftLaid : Int32} {c_game : (Nat → Int32)} {c_rows : Int32} {c_columns : Int32} {c_isFound : Int32} {c_bestValue : Int64} {c_bestBelow : Int64} {c_bestShare : (Nat → Int64)} {c_share : (Nat → Int64)} {c_matrix : (Nat → Int64)} {c_system : (Nat → Int64)} {c_shares : (Nat → Int32)} {c_allShares : Int32} {c_tape : (Nat → Int32)} {c_size : Int32} {c_from : Int32} {c_next : Int32} {c_token : Int32} {c_value : Int32} {z : Nat} {v : Int32 × Int32 × Int32 × Int32} (hX : xIs (j10_go) X none none (hM c_thrown c_told c_read c_many c_eights c_gains c_notes c_seen c_turns c_drawn c_state c_tape c_taped c_size v.1 v.2.1 v.2.2.1 v.2.2.2 c_fault c_number c_fives c_isLeft c_wentTimes c_goes c_isLeftLaid c_game c_rows c_columns c_isFound c_bestValue c_bestBelow c_bestShare c_share c_matrix c_system c_shares c_allShares)) (hf : F10_go_b110 z c_tape c_size c_from c_next c_token c_value = some v) : xV (j10_go) X 0 0 (hM c_thrown c_told c_read c_many c_eights c_gains c_notes c_seen c_turns c_drawn c_state c_tape c_taped c_size c_from c_next c_token c_value c_fault c_number c_fives c_isLeft c_wentTimes c_goes c_isLeftLaid c_game c_rows c_columns c_isFound c_bestValue c_bestBelow c_bestShare c_share c_matrix c_system c_shares c_allShares) 110 [(0, .ref 0)] [] := by
  unfold F10_go_b110 at hf
  refine xV_aload_n 111 rfl dX10_go_110 rfl 0 rfl ?_
  refine xV_iconst 112 rfl dX10_go_111 xk_i1 ?_
  refine xV_put (h' := (hM c_thrown c_told c_read c_many c_eights c_gains c_notes c_seen c_turns c_drawn c_state c_tape c_taped c_size c_from c_next (1 : Int32) c_value c_fault c_number c_fives c_isLeft c_wentTimes c_goes c_isLeftLaid c_game c_rows c_columns c_isFound c_bestValue c_bestBelow c_bestShare c_share c_matrix c_system c_shares c_allShares)) 115 rfl dX10_go_112 f10_141 rfl nf10_16 (fun _ => rfl) (fun _ => rfl) (Nat.le_of_ble_eq_true rfl) rfl ?_
  refine xV_goto (tgt := 258) dX10_go_115 (by decide) ?_
  obtain rfl := Option.some.inj hf
  exact xV_vret hX dX10_go_258 (Nat.zero_le _) (Nat.zero_le _)
def F10_go_b79 (z : Nat) (w : Nat) (c_tape : (Nat → Int32)) (c_size : Int32) (c_from : Int32) (c_next : Int32) (c_token : Int32) (c_value : Int32) : Option (Int32 × Int32 × Int32 × Int32) := match w with
  | 0 => none
  | w + 1 => (F10_byteAt c_next c_tape c_size).bind (fun v84 => (F10_within v84 (97 : Int32) (122 : Int32)).bind (fun v91 => if v91 = 0 then (F10_go_b110 z c_tape c_size c_from c_next c_token c_value) else (F10_go_b79 z w c_tape c_size c_from (c_next + (1 : Int32)) c_token c_value)))
theorem T10_go_b79 {X : xX} {c_thrown : Int32} {c_told : (Nat → Int32)} {c_read : (Nat → Int32)} {c_many : (Nat → Int32)} {c_eights : (Nat → Int32)} {c_gains : (Nat → Int32)} {c_notes : (Nat → Int32)} {c_seen : (Nat → Int32)} {c_turns : (Nat → Int32)} {c_drawn : (Nat → Int32)} {c_state : Int32} {c_tape : (Nat → Int32)} {c_taped : Int32} {c_size : Int32} {c_fault : Int32} {c_number : Int32} {c_fives : (Nat → Int32)} {c_isLeft : (Nat → Int32)} {c_wentTimes : Int32} {c_goes : (Nat → Int32)} {c_isLeftLaid : Int32} {c_game : (Nat → Int32)} {c_rows : Int32} {c_columns : Int32} {c_isFound : Int32} {c_bestValue : Int64} {c_bestBelow : Int64} {c_bestShare : (Nat → Int64)} {c_share : (Nat → Int64)} {c_matrix : (Nat → Int64)} {c_system : (Nat → Int64)} {c_shares : (Nat → Int32)} {c_allShares : Int32} {z : Nat} {v : Int32 × Int32 × Int32 × Int32} (hX : xIs (j10_go) X none none (hM c_thrown c_told c_read c_many c_eights c_gains c_notes c_seen c_turns c_drawn c_state c_tape c_taped c_size v.1 v.2.1 v.2.2.1 v.2.2.2 c_fault c_number c_fives c_isLeft c_wentTimes c_goes c_isLeftLaid c_game c_rows c_columns c_isFound c_bestValue c_bestBelow c_bestShare c_share c_matrix c_system c_shares c_allShares)) : ∀ (w : Nat) {c_from : Int32} {c_next : Int32} {c_token : Int32} {c_value : Int32}, F10_go_b79 z w c_tape c_size c_from c_next c_token c_value = some v → xV (j10_go) X 0 0 (hM c_thrown c_told c_read c_many c_eights c_gains c_notes c_seen c_turns c_drawn c_state c_tape c_taped c_size c_from c_next c_token c_value c_fault c_number c_fives c_isLeft c_wentTimes c_goes c_isLeftLaid c_game c_rows c_columns c_isFound c_bestValue c_bestBelow c_bestShare c_share c_matrix c_system c_shares c_allShares) 79 [(0, .ref 0)] [] := by
  intro w
  induction w with
  | zero => intro c_from c_next c_token c_value hf; cases hf
  | succ w ih =>
    intro c_from c_next c_token c_value hf
    unfold F10_go_b79 at hf
    refine xV_aload_n 80 rfl dX10_go_79 rfl 0 rfl ?_
    refine xV_aload_n 81 rfl dX10_go_80 rfl 0 rfl ?_
    refine xV_get (v := .int c_next) 84 rfl dX10_go_81 f10_132 rfl rfl ?_
    obtain ⟨v84, hv84, hf⟩ := xb_s hf
    refine xV_same (rest := []) 87 rfl dX10_go_84 rfl (C10_byteAt X.1.2.1 hv84) m10_byteAt v10_byteAt k10_135 rfl rfl rfl rfl rfl (Nat.le_of_ble_eq_true rfl) (Nat.le_of_ble_eq_true rfl) (Nat.le_of_ble_eq_true rfl) ⟨Nat.le_refl _, Nat.le_refl _⟩ ?_
    show xV (j10_go) X 0 0 (hM c_thrown c_told c_read c_many c_eights c_gains c_notes c_seen c_turns c_drawn c_state c_tape c_taped c_size c_from c_next c_token c_value c_fault c_number c_fives c_isLeft c_wentTimes c_goes c_isLeftLaid c_game c_rows c_columns c_isFound c_bestValue c_bestBelow c_bestShare c_share c_matrix c_system c_shares c_allShares) 87 [(0, .ref 0)] [.int v84]
    refine xV_bipush 89 rfl dX10_go_87 xk_b97 ?_
    refine xV_bipush 91 rfl dX10_go_89 xk_b122 ?_
    obtain ⟨v91, hv91, hf⟩ := xb_s hf
    refine xV_st0 (rest := []) 94 rfl dX10_go_91 rfl (C10_within X.1.2.1 hv91) m10_within s10_within k10_7 rfl (Nat.le_of_ble_eq_true rfl) (Nat.le_of_ble_eq_true rfl) (Nat.le_of_ble_eq_true rfl) ⟨Nat.le_refl _, Nat.le_refl _⟩ ?_
    show xV (j10_go) X 0 0 (hM c_thrown c_told c_read c_many c_eights c_gains c_notes c_seen c_turns c_drawn c_state c_tape c_taped c_size c_from c_next c_token c_value c_fault c_number c_fives c_isLeft c_wentTimes c_goes c_isLeftLaid c_game c_rows c_columns c_isFound c_bestValue c_bestBelow c_bestShare c_share c_matrix c_system c_shares c_allShares) 94 [(0, .ref 0)] [.int v91]
    refine xV_if_eq (tgt := 110) 97 rfl dX10_go_94 (by decide) (fun h94 => ?_) (fun h94 => ?_)
    · have hf := xif_t hf h94
      exact T10_go_b110 hX hf
    · have hf := xif_f hf h94
      refine xV_aload_n 98 rfl dX10_go_97 rfl 0 rfl ?_
      refine xV_dup 99 rfl dX10_go_98 rfl ?_
      refine xV_get (v := .int c_next) 102 rfl dX10_go_99 f10_132 rfl rfl ?_
      refine xV_iconst 103 rfl dX10_go_102 xk_i1 ?_
      refine xV_iadd 104 rfl dX10_go_103 ?_
      refine xV_put (h' := (hM c_thrown c_told c_read c_many c_eights c_gains c_notes c_seen c_turns c_drawn c_state c_tape c_taped c_size c_from (c_next + (1 : Int32)) c_token c_value c_fault c_number c_fives c_isLeft c_wentTimes c_goes c_isLeftLaid c_game c_rows c_columns c_isFound c_bestValue c_bestBelow c_bestShare c_share c_matrix c_system c_shares c_allShares)) 107 rfl dX10_go_104 f10_132 rfl nf10_15 (fun _ => rfl) (fun _ => rfl) (Nat.le_of_ble_eq_true rfl) rfl ?_
      refine xV_goto (tgt := 79) dX10_go_107 (by decide) ?_
      exact ih hf
def F10_go_b39 (z : Nat) (c_tape : (Nat → Int32)) (c_size : Int32) (c_from : Int32) (c_next : Int32) (c_token : Int32) (c_value : Int32) : Option (Int32 × Int32 × Int32 × Int32) :=
  (F10_byteAt c_next c_tape c_size).bind (fun v52 => if 0 ≤ v52 then ((F10_within v52 (97 : Int32) (122 : Int32)).bind (fun v73 => if v73 = 0 then ((F10_within v52 (48 : Int32) (57 : Int32)).bind (fun v123 => if v123 = 0 then (if v52 = (59 : Int32) then (F10_go_b255 z (3 : Int32) c_tape c_size c_next (c_next + (1 : Int32)) c_token c_value) else (F10_go_b255 z (4 : Int32) c_tape c_size c_next (c_next + (1 : Int32)) c_token c_value)) else (F10_go_b134 z z c_tape c_size c_next c_next c_token (0 : Int32)))) else (F10_go_b79 z z c_tape c_size c_next c_next c_token c_value))) else (some (c_next, c_next, (0 : Int32), c_value)))
theorem T10_go_b39 {X : xX} {c_thrown : Int32} {c_told : (Nat → Int32)} {c_read : (Nat → Int32)} {c_many : (Nat → Int32)} {c_eights : (Nat → Int32)} {c_gains : (Nat → Int32)} {c_notes : (Nat → Int32)} {c_seen : (Nat → Int32)} {c_turns : (Nat → Int32)} {c_drawn : (Nat → Int32)} {c_state : Int32} {c_taped : Int32} {c_fault : Int32} {c_number : Int32} {c_fives : (Nat → Int32)} {c_isLeft : (Nat → Int32)} {c_wentTimes : Int32} {c_goes : (Nat → Int32)} {c_isLeftLaid : Int32} {c_game : (Nat → Int32)} {c_rows : Int32} {c_columns : Int32} {c_isFound : Int32} {c_bestValue : Int64} {c_bestBelow : Int64} {c_bestShare : (Nat → Int64)} {c_share : (Nat → Int64)} {c_matrix : (Nat → Int64)} {c_system : (Nat → Int64)} {c_shares : (Nat → Int32)} {c_allShares : Int32} {c_tape : (Nat → Int32)} {c_size : Int32} {c_from : Int32} {c_next : Int32} {c_token : Int32} {c_value : Int32} {z : Nat} {v : Int32 × Int32 × Int32 × Int32} (hX : xIs (j10_go) X none none (hM c_thrown c_told c_read c_many c_eights c_gains c_notes c_seen c_turns c_drawn c_state c_tape c_taped c_size v.1 v.2.1 v.2.2.1 v.2.2.2 c_fault c_number c_fives c_isLeft c_wentTimes c_goes c_isLeftLaid c_game c_rows c_columns c_isFound c_bestValue c_bestBelow c_bestShare c_share c_matrix c_system c_shares c_allShares)) (hf : F10_go_b39 z c_tape c_size c_from c_next c_token c_value = some v) : xV (j10_go) X 0 0 (hM c_thrown c_told c_read c_many c_eights c_gains c_notes c_seen c_turns c_drawn c_state c_tape c_taped c_size c_from c_next c_token c_value c_fault c_number c_fives c_isLeft c_wentTimes c_goes c_isLeftLaid c_game c_rows c_columns c_isFound c_bestValue c_bestBelow c_bestShare c_share c_matrix c_system c_shares c_allShares) 39 [(0, .ref 0)] [] := by
  unfold F10_go_b39 at hf
  refine xV_aload_n 40 rfl dX10_go_39 rfl 0 rfl ?_
  refine xV_aload_n 41 rfl dX10_go_40 rfl 0 rfl ?_
  refine xV_get (v := .int c_next) 44 rfl dX10_go_41 f10_132 rfl rfl ?_
  refine xV_put (h' := (hM c_thrown c_told c_read c_many c_eights c_gains c_notes c_seen c_turns c_drawn c_state c_tape c_taped c_size c_next c_next c_token c_value c_fault c_number c_fives c_isLeft c_wentTimes c_goes c_isLeftLaid c_game c_rows c_columns c_isFound c_bestValue c_bestBelow c_bestShare c_share c_matrix c_system c_shares c_allShares)) 47 rfl dX10_go_44 f10_138 rfl nf10_14 (fun _ => rfl) (fun _ => rfl) (Nat.le_of_ble_eq_true rfl) rfl ?_
  refine xV_aload_n 48 rfl dX10_go_47 rfl 0 rfl ?_
  refine xV_aload_n 49 rfl dX10_go_48 rfl 0 rfl ?_
  refine xV_get (v := .int c_next) 52 rfl dX10_go_49 f10_132 rfl rfl ?_
  obtain ⟨v52, hv52, hf⟩ := xb_s hf
  refine xV_same (rest := []) 55 rfl dX10_go_52 rfl (C10_byteAt X.1.2.1 hv52) m10_byteAt v10_byteAt k10_135 rfl rfl rfl rfl rfl (Nat.le_of_ble_eq_true rfl) (Nat.le_of_ble_eq_true rfl) (Nat.le_of_ble_eq_true rfl) ⟨Nat.le_refl _, Nat.le_refl _⟩ ?_
  show xV (j10_go) X 0 0 (hM c_thrown c_told c_read c_many c_eights c_gains c_notes c_seen c_turns c_drawn c_state c_tape c_taped c_size c_next c_next c_token c_value c_fault c_number c_fives c_isLeft c_wentTimes c_goes c_isLeftLaid c_game c_rows c_columns c_isFound c_bestValue c_bestBelow c_bestShare c_share c_matrix c_system c_shares c_allShares) 55 [(0, .ref 0)] [.int v52]
  refine xV_istore_n (L' := [(1, .int v52), (0, .ref 0)]) 56 rfl dX10_go_55 rfl (xlt rfl) rfl ?_
  refine xV_iload_n 57 rfl dX10_go_56 rfl 0 rfl ?_
  refine xV_if_ge (tgt := 68) 60 rfl dX10_go_57 (by decide) (fun h57 => ?_) (fun h57 => ?_)
  · have hf := xif_t hf h57
    refine xV_iload_n 69 rfl dX10_go_68 rfl 0 rfl ?_
    refine xV_bipush 71 rfl dX10_go_69 xk_b97 ?_
    refine xV_bipush 73 rfl dX10_go_71 xk_b122 ?_
    obtain ⟨v73, hv73, hf⟩ := xb_s hf
    refine xV_st0 (rest := []) 76 rfl dX10_go_73 rfl (C10_within X.1.2.1 hv73) m10_within s10_within k10_7 rfl (Nat.le_of_ble_eq_true rfl) (Nat.le_of_ble_eq_true rfl) (Nat.le_of_ble_eq_true rfl) ⟨Nat.le_refl _, Nat.le_refl _⟩ ?_
    show xV (j10_go) X 0 0 (hM c_thrown c_told c_read c_many c_eights c_gains c_notes c_seen c_turns c_drawn c_state c_tape c_taped c_size c_next c_next c_token c_value c_fault c_number c_fives c_isLeft c_wentTimes c_goes c_isLeftLaid c_game c_rows c_columns c_isFound c_bestValue c_bestBelow c_bestShare c_share c_matrix c_system c_shares c_allShares) 76 [(1, .int v52), (0, .ref 0)] [.int v73]
    refine xV_if_eq (tgt := 118) 79 rfl dX10_go_76 (by decide) (fun h76 => ?_) (fun h76 => ?_)
    · have hf := xif_t hf h76
      refine xV_iload_n 119 rfl dX10_go_118 rfl 0 rfl ?_
      refine xV_bipush 121 rfl dX10_go_119 xk_b48 ?_
      refine xV_bipush 123 rfl dX10_go_121 xk_b57 ?_
      obtain ⟨v123, hv123, hf⟩ := xb_s hf
      refine xV_st0 (rest := []) 126 rfl dX10_go_123 rfl (C10_within X.1.2.1 hv123) m10_within s10_within k10_7 rfl (Nat.le_of_ble_eq_true rfl) (Nat.le_of_ble_eq_true rfl) (Nat.le_of_ble_eq_true rfl) ⟨Nat.le_refl _, Nat.le_refl _⟩ ?_
      show xV (j10_go) X 0 0 (hM c_thrown c_told c_read c_many c_eights c_gains c_notes c_seen c_turns c_drawn c_state c_tape c_taped c_size c_next c_next c_token c_value c_fault c_number c_fives c_isLeft c_wentTimes c_goes c_isLeftLaid c_game c_rows c_columns c_isFound c_bestValue c_bestBelow c_bestShare c_share c_matrix c_system c_shares c_allShares) 126 [(1, .int v52), (0, .ref 0)] [.int v123]
      refine xV_if_eq (tgt := 233) 129 rfl dX10_go_126 (by decide) (fun h126 => ?_) (fun h126 => ?_)
      · have hf := xif_t hf h126
        refine xV_aload_n 234 rfl dX10_go_233 rfl 1 rfl ?_
        refine xV_dup 235 rfl dX10_go_234 rfl ?_
        refine xV_get (v := .int c_next) 238 rfl dX10_go_235 f10_132 rfl rfl ?_
        refine xV_iconst 239 rfl dX10_go_238 xk_i1 ?_
        refine xV_iadd 240 rfl dX10_go_239 ?_
        refine xV_put (h' := (hM c_thrown c_told c_read c_many c_eights c_gains c_notes c_seen c_turns c_drawn c_state c_tape c_taped c_size c_next (c_next + (1 : Int32)) c_token c_value c_fault c_number c_fives c_isLeft c_wentTimes c_goes c_isLeftLaid c_game c_rows c_columns c_isFound c_bestValue c_bestBelow c_bestShare c_share c_matrix c_system c_shares c_allShares)) 243 rfl dX10_go_240 f10_132 rfl nf10_15 (fun _ => rfl) (fun _ => rfl) (Nat.le_of_ble_eq_true rfl) rfl ?_
        refine xV_aload_n 244 rfl dX10_go_243 rfl 1 rfl ?_
        refine xV_iload_n 245 rfl dX10_go_244 rfl 0 rfl ?_
        refine xV_bipush 247 rfl dX10_go_245 xk_b59 ?_
        refine xV_icmp_ne (tgt := 254) 250 rfl dX10_go_247 (by decide) (fun h247 => ?_) (fun h247 => ?_)
        · have hf := xif_f hf h247
          refine xV_iconst 255 rfl dX10_go_254 xk_i4 ?_
          refine xV_sub [] rfl ?_
          exact T10_go_b255 hX hf
        · have hf := xif_t hf h247
          refine xV_iconst 251 rfl dX10_go_250 xk_i3 ?_
          refine xV_goto (tgt := 255) dX10_go_251 (by decide) ?_
          refine xV_sub [] rfl ?_
          exact T10_go_b255 hX hf
      · have hf := xif_f hf h126
        refine xV_aload_n 130 rfl dX10_go_129 rfl 1 rfl ?_
        refine xV_iconst 131 rfl dX10_go_130 xk_i0 ?_
        refine xV_put (h' := (hM c_thrown c_told c_read c_many c_eights c_gains c_notes c_seen c_turns c_drawn c_state c_tape c_taped c_size c_next c_next c_token (0 : Int32) c_fault c_number c_fives c_isLeft c_wentTimes c_goes c_isLeftLaid c_game c_rows c_columns c_isFound c_bestValue c_bestBelow c_bestShare c_share c_matrix c_system c_shares c_allShares)) 134 rfl dX10_go_131 f10_144 rfl nf10_17 (fun _ => rfl) (fun _ => rfl) (Nat.le_of_ble_eq_true rfl) rfl ?_
        refine xV_sub [1] rfl ?_
        exact T10_go_b134 hX _ hf
    · have hf := xif_f hf h76
      refine xV_sub [1] rfl ?_
      exact T10_go_b79 hX _ hf
  · have hf := xif_f hf h57
    refine xV_aload_n 61 rfl dX10_go_60 rfl 1 rfl ?_
    refine xV_iconst 62 rfl dX10_go_61 xk_i0 ?_
    refine xV_put (h' := (hM c_thrown c_told c_read c_many c_eights c_gains c_notes c_seen c_turns c_drawn c_state c_tape c_taped c_size c_next c_next (0 : Int32) c_value c_fault c_number c_fives c_isLeft c_wentTimes c_goes c_isLeftLaid c_game c_rows c_columns c_isFound c_bestValue c_bestBelow c_bestShare c_share c_matrix c_system c_shares c_allShares)) 65 rfl dX10_go_62 f10_141 rfl nf10_16 (fun _ => rfl) (fun _ => rfl) (Nat.le_of_ble_eq_true rfl) rfl ?_
    refine xV_goto (tgt := 258) dX10_go_65 (by decide) ?_
    obtain rfl := Option.some.inj hf
    exact xV_vret hX dX10_go_258 (Nat.zero_le _) (Nat.zero_le _)
def F10_go_b0 (z : Nat) (w : Nat) (c_tape : (Nat → Int32)) (c_size : Int32) (c_from : Int32) (c_next : Int32) (c_token : Int32) (c_value : Int32) : Option (Int32 × Int32 × Int32 × Int32) := match w with
  | 0 => none
  | w + 1 => (F10_byteAt c_next c_tape c_size).bind (fun v5 => if v5 = (32 : Int32) then (F10_go_b26 z c_tape c_size c_from c_next c_token c_value (fun q0 q1 q2 q3 q4 q5 => F10_go_b0 z w q0 q1 q2 q3 q4 q5)) else ((F10_byteAt c_next c_tape c_size).bind (fun v18 => if v18 = (10 : Int32) then (F10_go_b26 z c_tape c_size c_from c_next c_token c_value (fun q0 q1 q2 q3 q4 q5 => F10_go_b0 z w q0 q1 q2 q3 q4 q5)) else (F10_go_b39 z c_tape c_size c_from c_next c_token c_value))))
theorem T10_go_b0 {X : xX} {c_thrown : Int32} {c_told : (Nat → Int32)} {c_read : (Nat → Int32)} {c_many : (Nat → Int32)} {c_eights : (Nat → Int32)} {c_gains : (Nat → Int32)} {c_notes : (Nat → Int32)} {c_seen : (Nat → Int32)} {c_turns : (Nat → Int32)} {c_drawn : (Nat → Int32)} {c_state : Int32} {c_tape : (Nat → Int32)} {c_taped : Int32} {c_size : Int32} {c_fault : Int32} {c_number : Int32} {c_fives : (Nat → Int32)} {c_isLeft : (Nat → Int32)} {c_wentTimes : Int32} {c_goes : (Nat → Int32)} {c_isLeftLaid : Int32} {c_game : (Nat → Int32)} {c_rows : Int32} {c_columns : Int32} {c_isFound : Int32} {c_bestValue : Int64} {c_bestBelow : Int64} {c_bestShare : (Nat → Int64)} {c_share : (Nat → Int64)} {c_matrix : (Nat → Int64)} {c_system : (Nat → Int64)} {c_shares : (Nat → Int32)} {c_allShares : Int32} {z : Nat} {v : Int32 × Int32 × Int32 × Int32} (hX : xIs (j10_go) X none none (hM c_thrown c_told c_read c_many c_eights c_gains c_notes c_seen c_turns c_drawn c_state c_tape c_taped c_size v.1 v.2.1 v.2.2.1 v.2.2.2 c_fault c_number c_fives c_isLeft c_wentTimes c_goes c_isLeftLaid c_game c_rows c_columns c_isFound c_bestValue c_bestBelow c_bestShare c_share c_matrix c_system c_shares c_allShares)) : ∀ (w : Nat) {c_from : Int32} {c_next : Int32} {c_token : Int32} {c_value : Int32}, F10_go_b0 z w c_tape c_size c_from c_next c_token c_value = some v → xV (j10_go) X 0 0 (hM c_thrown c_told c_read c_many c_eights c_gains c_notes c_seen c_turns c_drawn c_state c_tape c_taped c_size c_from c_next c_token c_value c_fault c_number c_fives c_isLeft c_wentTimes c_goes c_isLeftLaid c_game c_rows c_columns c_isFound c_bestValue c_bestBelow c_bestShare c_share c_matrix c_system c_shares c_allShares) 0 [(0, .ref 0)] [] := by
  intro w
  induction w with
  | zero => intro c_from c_next c_token c_value hf; cases hf
  | succ w ih =>
    intro c_from c_next c_token c_value hf
    unfold F10_go_b0 at hf
    refine xV_aload_n 1 rfl dX10_go_0 rfl 0 rfl ?_
    refine xV_aload_n 2 rfl dX10_go_1 rfl 0 rfl ?_
    refine xV_get (v := .int c_next) 5 rfl dX10_go_2 f10_132 rfl rfl ?_
    obtain ⟨v5, hv5, hf⟩ := xb_s hf
    refine xV_same (rest := []) 8 rfl dX10_go_5 rfl (C10_byteAt X.1.2.1 hv5) m10_byteAt v10_byteAt k10_135 rfl rfl rfl rfl rfl (Nat.le_of_ble_eq_true rfl) (Nat.le_of_ble_eq_true rfl) (Nat.le_of_ble_eq_true rfl) ⟨Nat.le_refl _, Nat.le_refl _⟩ ?_
    show xV (j10_go) X 0 0 (hM c_thrown c_told c_read c_many c_eights c_gains c_notes c_seen c_turns c_drawn c_state c_tape c_taped c_size c_from c_next c_token c_value c_fault c_number c_fives c_isLeft c_wentTimes c_goes c_isLeftLaid c_game c_rows c_columns c_isFound c_bestValue c_bestBelow c_bestShare c_share c_matrix c_system c_shares c_allShares) 8 [(0, .ref 0)] [.int v5]
    refine xV_bipush 10 rfl dX10_go_8 xk_b32 ?_
    refine xV_icmp_eq (tgt := 26) 13 rfl dX10_go_10 (by decide) (fun h10 => ?_) (fun h10 => ?_)
    · have hf := xif_t hf h10
      exact T10_go_b26 hX (fun {_ _ _ _} hq => ih hq) hf
    · have hf := xif_f hf h10
      refine xV_aload_n 14 rfl dX10_go_13 rfl 0 rfl ?_
      refine xV_aload_n 15 rfl dX10_go_14 rfl 0 rfl ?_
      refine xV_get (v := .int c_next) 18 rfl dX10_go_15 f10_132 rfl rfl ?_
      obtain ⟨v18, hv18, hf⟩ := xb_s hf
      refine xV_same (rest := []) 21 rfl dX10_go_18 rfl (C10_byteAt X.1.2.1 hv18) m10_byteAt v10_byteAt k10_135 rfl rfl rfl rfl rfl (Nat.le_of_ble_eq_true rfl) (Nat.le_of_ble_eq_true rfl) (Nat.le_of_ble_eq_true rfl) ⟨Nat.le_refl _, Nat.le_refl _⟩ ?_
      show xV (j10_go) X 0 0 (hM c_thrown c_told c_read c_many c_eights c_gains c_notes c_seen c_turns c_drawn c_state c_tape c_taped c_size c_from c_next c_token c_value c_fault c_number c_fives c_isLeft c_wentTimes c_goes c_isLeftLaid c_game c_rows c_columns c_isFound c_bestValue c_bestBelow c_bestShare c_share c_matrix c_system c_shares c_allShares) 21 [(0, .ref 0)] [.int v18]
      refine xV_bipush 23 rfl dX10_go_21 xk_b10 ?_
      refine xV_icmp_ne (tgt := 39) 26 rfl dX10_go_23 (by decide) (fun h23 => ?_) (fun h23 => ?_)
      · have hf := xif_f hf h23
        exact T10_go_b39 hX hf
      · have hf := xif_t hf h23
        exact T10_go_b26 hX (fun {_ _ _ _} hq => ih hq) hf
def F10_go (z : Nat) (c_tape : (Nat → Int32)) (c_size : Int32) (c_from : Int32) (c_next : Int32) (c_token : Int32) (c_value : Int32) : Option (Int32 × Int32 × Int32 × Int32) :=
  F10_go_b0 z z c_tape c_size c_from c_next c_token c_value
theorem T10_go {X : xX} {z : Nat} {c_tape : (Nat → Int32)} {c_size : Int32} {c_from : Int32} {c_next : Int32} {c_token : Int32} {c_value : Int32} {c_thrown : Int32} {c_told : (Nat → Int32)} {c_read : (Nat → Int32)} {c_many : (Nat → Int32)} {c_eights : (Nat → Int32)} {c_gains : (Nat → Int32)} {c_notes : (Nat → Int32)} {c_seen : (Nat → Int32)} {c_turns : (Nat → Int32)} {c_drawn : (Nat → Int32)} {c_state : Int32} {c_taped : Int32} {c_fault : Int32} {c_number : Int32} {c_fives : (Nat → Int32)} {c_isLeft : (Nat → Int32)} {c_wentTimes : Int32} {c_goes : (Nat → Int32)} {c_isLeftLaid : Int32} {c_game : (Nat → Int32)} {c_rows : Int32} {c_columns : Int32} {c_isFound : Int32} {c_bestValue : Int64} {c_bestBelow : Int64} {c_bestShare : (Nat → Int64)} {c_share : (Nat → Int64)} {c_matrix : (Nat → Int64)} {c_system : (Nat → Int64)} {c_shares : (Nat → Int32)} {c_allShares : Int32} {v : Int32 × Int32 × Int32 × Int32} (hX : xIs (j10_go) X none none (hM c_thrown c_told c_read c_many c_eights c_gains c_notes c_seen c_turns c_drawn c_state c_tape c_taped c_size v.1 v.2.1 v.2.2.1 v.2.2.2 c_fault c_number c_fives c_isLeft c_wentTimes c_goes c_isLeftLaid c_game c_rows c_columns c_isFound c_bestValue c_bestBelow c_bestShare c_share c_matrix c_system c_shares c_allShares)) (hf : F10_go z c_tape c_size c_from c_next c_token c_value = some v) : xV (j10_go) X 0 0 (hM c_thrown c_told c_read c_many c_eights c_gains c_notes c_seen c_turns c_drawn c_state c_tape c_taped c_size c_from c_next c_token c_value c_fault c_number c_fives c_isLeft c_wentTimes c_goes c_isLeftLaid c_game c_rows c_columns c_isFound c_bestValue c_bestBelow c_bestShare c_share c_matrix c_system c_shares c_allShares) 0 [(0, .ref 0)] [] := by
  unfold F10_go at hf
  exact T10_go_b0 hX _ hf
theorem C10_go (l : Launch) {z : Nat} {c_tape : (Nat → Int32)} {c_size : Int32} {c_from : Int32} {c_next : Int32} {c_token : Int32} {c_value : Int32} {c_thrown : Int32} {c_told : (Nat → Int32)} {c_read : (Nat → Int32)} {c_many : (Nat → Int32)} {c_eights : (Nat → Int32)} {c_gains : (Nat → Int32)} {c_notes : (Nat → Int32)} {c_seen : (Nat → Int32)} {c_turns : (Nat → Int32)} {c_drawn : (Nat → Int32)} {c_state : Int32} {c_taped : Int32} {c_fault : Int32} {c_number : Int32} {c_fives : (Nat → Int32)} {c_isLeft : (Nat → Int32)} {c_wentTimes : Int32} {c_goes : (Nat → Int32)} {c_isLeftLaid : Int32} {c_game : (Nat → Int32)} {c_rows : Int32} {c_columns : Int32} {c_isFound : Int32} {c_bestValue : Int64} {c_bestBelow : Int64} {c_bestShare : (Nat → Int64)} {c_share : (Nat → Int64)} {c_matrix : (Nat → Int64)} {c_system : (Nat → Int64)} {c_shares : (Nat → Int32)} {c_allShares : Int32} {v : Int32 × Int32 × Int32 × Int32} (hf : F10_go z c_tape c_size c_from c_next c_token c_value = some v) : xCt l yX10_go none j10_go [.ref 0] (hM c_thrown c_told c_read c_many c_eights c_gains c_notes c_seen c_turns c_drawn c_state c_tape c_taped c_size c_from c_next c_token c_value c_fault c_number c_fives c_isLeft c_wentTimes c_goes c_isLeftLaid c_game c_rows c_columns c_isFound c_bestValue c_bestBelow c_bestShare c_share c_matrix c_system c_shares c_allShares) none (hM c_thrown c_told c_read c_many c_eights c_gains c_notes c_seen c_turns c_drawn c_state c_tape c_taped c_size v.1 v.2.1 v.2.2.1 v.2.2.2 c_fault c_number c_fives c_isLeft c_wentTimes c_goes c_isLeftLaid c_game c_rows c_columns c_isFound c_bestValue c_bestBelow c_bestShare c_share c_matrix c_system c_shares c_allShares) := xCt_of (by decide) rfl (Nat.le_of_ble_eq_true rfl) (fun _ hX => T10_go hX hf)
theorem m10_go : xMd yX10_go RX10 none j10_go 0 := ⟨List.mem_of_getElem? (i := 419) (by decide +kernel), List.mem_of_getElem? (i := 5) (by decide +kernel), rfl, by decide +kernel⟩
theorem v10_go : xMv yX10_go RX10 := ⟨List.mem_of_getElem? (i := 417) (by decide +kernel), List.mem_of_getElem? (i := 418) (by decide +kernel)⟩
