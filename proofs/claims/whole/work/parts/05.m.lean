def hM (c_thrown : Int32) (c_told : (Nat → Int32)) (c_read : (Nat → Int32)) (c_many : (Nat → Int32)) (c_eights : (Nat → Int32)) (c_gains : (Nat → Int32)) (c_notes : (Nat → Int32)) (c_seen : (Nat → Int32)) (c_turns : (Nat → Int32)) (c_drawn : (Nat → Int32)) (c_state : Int32) (c_tape : (Nat → Int32)) (c_taped : Int32) (c_size : Int32) (c_from : Int32) (c_next : Int32) (c_token : Int32) (c_value : Int32) (c_fault : Int32) (c_number : Int32) (c_fives : (Nat → Int32)) (c_isLeft : (Nat → Int32)) (c_wentTimes : Int32) (c_goes : (Nat → Int32)) (c_isLeftLaid : Int32) (c_game : (Nat → Int32)) (c_rows : Int32) (c_columns : Int32) (c_isFound : Int32) (c_bestValue : Int64) (c_bestBelow : Int64) (c_bestShare : (Nat → Int64)) (c_share : (Nat → Int64)) (c_matrix : (Nat → Int64)) (c_system : (Nat → Int64)) (c_shares : (Nat → Int32)) (c_allShares : Int32) : xHp := [.inr (10, [.int c_thrown, .ref 1, .ref 2, .ref 3, .ref 4, .ref 5, .ref 6, .ref 7, .ref 8, .ref 9, .int c_state, .ref 10, .int c_taped, .int c_size, .int c_from, .int c_next, .int c_token, .int c_value, .int c_fault, .int c_number, .ref 11, .ref 12, .int c_wentTimes, .ref 13, .int c_isLeftLaid, .ref 14, .int c_rows, .int c_columns, .int c_isFound, .long c_bestValue, .long c_bestBelow, .ref 15, .ref 16, .ref 17, .ref 18, .ref 19, .int c_allShares]), .inl (0, 56, .inl c_told), .inl (0, 56, .inl c_read), .inl (0, 2, .inl c_many), .inl (0, 256, .inl c_eights), .inl (0, 16384, .inl c_gains), .inl (0, 2, .inl c_notes), .inl (0, 256, .inl c_seen), .inl (0, 2, .inl c_turns), .inl (0, 16, .inl c_drawn), .inl (2, 300, .inl c_tape), .inl (0, 8, .inl c_fives), .inl (3, 256, .inl c_isLeft), .inl (3, 256, .inl c_goes), .inl (0, 64, .inl c_game), .inl (1, 8, .inr (.inl c_bestShare)), .inl (1, 8, .inr (.inl c_share)), .inl (1, 64, .inr (.inl c_matrix)), .inl (1, 64, .inr (.inl c_system)), .inl (0, 128, .inl c_shares)]
def hA (c_of : (Nat → Int32)) : xHp := [.inl (0, 56, .inl c_of)]
theorem xk_inc {v w : Int32} {a : Int} (h : Int32.ofInt a = w) : v + Int32.ofInt a = v + w := by rw [h]

theorem f10_1 : xFl RX10 1 10 0 := ⟨_, rfl, by decide, List.mem_of_getElem? (i := 183) (by decide +kernel)⟩
theorem dX10_thrown_0 : decode cX10_thrown 0 = .ok (.aload_n 0, 1) := by decide +kernel
theorem dX10_thrown_1 : decode cX10_thrown 1 = .ok (.getfield 1, 3) := by decide +kernel
theorem dX10_thrown_4 : decode cX10_thrown 4 = .ok (.ireturn, 1) := by decide +kernel
abbrev j10_thrown : xJ := (cX10_thrown, 1, RX10, 1, 0, 0)
def F10_thrown (c_thrown : Int32) : Option (Int32) :=
  some (c_thrown)
theorem T10_thrown {X : xX} {c_thrown : Int32} {c_told : (Nat → Int32)} {c_read : (Nat → Int32)} {c_many : (Nat → Int32)} {c_eights : (Nat → Int32)} {c_gains : (Nat → Int32)} {c_notes : (Nat → Int32)} {c_seen : (Nat → Int32)} {c_turns : (Nat → Int32)} {c_drawn : (Nat → Int32)} {c_state : Int32} {c_tape : (Nat → Int32)} {c_taped : Int32} {c_size : Int32} {c_from : Int32} {c_next : Int32} {c_token : Int32} {c_value : Int32} {c_fault : Int32} {c_number : Int32} {c_fives : (Nat → Int32)} {c_isLeft : (Nat → Int32)} {c_wentTimes : Int32} {c_goes : (Nat → Int32)} {c_isLeftLaid : Int32} {c_game : (Nat → Int32)} {c_rows : Int32} {c_columns : Int32} {c_isFound : Int32} {c_bestValue : Int64} {c_bestBelow : Int64} {c_bestShare : (Nat → Int64)} {c_share : (Nat → Int64)} {c_matrix : (Nat → Int64)} {c_system : (Nat → Int64)} {c_shares : (Nat → Int32)} {c_allShares : Int32} {v : Int32} (hX : xIs (j10_thrown) X ((some .int)) (some (.int v)) (hM c_thrown c_told c_read c_many c_eights c_gains c_notes c_seen c_turns c_drawn c_state c_tape c_taped c_size c_from c_next c_token c_value c_fault c_number c_fives c_isLeft c_wentTimes c_goes c_isLeftLaid c_game c_rows c_columns c_isFound c_bestValue c_bestBelow c_bestShare c_share c_matrix c_system c_shares c_allShares)) (hf : F10_thrown c_thrown = some v) : xV (j10_thrown) X 0 0 (hM c_thrown c_told c_read c_many c_eights c_gains c_notes c_seen c_turns c_drawn c_state c_tape c_taped c_size c_from c_next c_token c_value c_fault c_number c_fives c_isLeft c_wentTimes c_goes c_isLeftLaid c_game c_rows c_columns c_isFound c_bestValue c_bestBelow c_bestShare c_share c_matrix c_system c_shares c_allShares) 0 [(0, .ref 0)] [] := by
  unfold F10_thrown at hf
  refine xV_aload_n 1 rfl dX10_thrown_0 rfl 0 rfl ?_
  refine xV_get (v := .int c_thrown) 4 rfl dX10_thrown_1 f10_1 rfl rfl ?_
  cases hf
  exact xV_iret hX dX10_thrown_4 rfl (Nat.zero_le _) (Nat.zero_le _)
theorem C10_thrown (l : Launch) {c_thrown : Int32} {c_told : (Nat → Int32)} {c_read : (Nat → Int32)} {c_many : (Nat → Int32)} {c_eights : (Nat → Int32)} {c_gains : (Nat → Int32)} {c_notes : (Nat → Int32)} {c_seen : (Nat → Int32)} {c_turns : (Nat → Int32)} {c_drawn : (Nat → Int32)} {c_state : Int32} {c_tape : (Nat → Int32)} {c_taped : Int32} {c_size : Int32} {c_from : Int32} {c_next : Int32} {c_token : Int32} {c_value : Int32} {c_fault : Int32} {c_number : Int32} {c_fives : (Nat → Int32)} {c_isLeft : (Nat → Int32)} {c_wentTimes : Int32} {c_goes : (Nat → Int32)} {c_isLeftLaid : Int32} {c_game : (Nat → Int32)} {c_rows : Int32} {c_columns : Int32} {c_isFound : Int32} {c_bestValue : Int64} {c_bestBelow : Int64} {c_bestShare : (Nat → Int64)} {c_share : (Nat → Int64)} {c_matrix : (Nat → Int64)} {c_system : (Nat → Int64)} {c_shares : (Nat → Int32)} {c_allShares : Int32} {v : Int32} (hf : F10_thrown c_thrown = some v) : xCt l yX10_thrown ((some .int)) j10_thrown [.ref 0] (hM c_thrown c_told c_read c_many c_eights c_gains c_notes c_seen c_turns c_drawn c_state c_tape c_taped c_size c_from c_next c_token c_value c_fault c_number c_fives c_isLeft c_wentTimes c_goes c_isLeftLaid c_game c_rows c_columns c_isFound c_bestValue c_bestBelow c_bestShare c_share c_matrix c_system c_shares c_allShares) (some (.int v)) (hM c_thrown c_told c_read c_many c_eights c_gains c_notes c_seen c_turns c_drawn c_state c_tape c_taped c_size c_from c_next c_token c_value c_fault c_number c_fives c_isLeft c_wentTimes c_goes c_isLeftLaid c_game c_rows c_columns c_isFound c_bestValue c_bestBelow c_bestShare c_share c_matrix c_system c_shares c_allShares) := xCt_of (by decide) rfl (Nat.le_of_ble_eq_true rfl) (fun _ hX => T10_thrown hX hf)
theorem m10_thrown : xMd yX10_thrown RX10 ((some .int)) j10_thrown 0 := ⟨List.mem_of_getElem? (i := 590) (by decide +kernel), List.mem_of_getElem? (i := 5) (by decide +kernel), rfl, by decide +kernel⟩
theorem v10_thrown : xMv yX10_thrown RX10 := ⟨List.mem_of_getElem? (i := 588) (by decide +kernel), List.mem_of_getElem? (i := 589) (by decide +kernel)⟩
theorem xk_i1 : Int32.ofInt (1) = (1 : Int32) := by decide
theorem xk_i0 : Int32.ofInt (0) = (0 : Int32) := by decide

theorem dX10_within_0 : decode cX10_within 0 = .ok (.iload_n 0, 1) := by decide +kernel
theorem dX10_within_1 : decode cX10_within 1 = .ok (.iload_n 1, 1) := by decide +kernel
theorem dX10_within_2 : decode cX10_within 2 = .ok (.if_icmp .lt 12, 3) := by decide +kernel
theorem dX10_within_5 : decode cX10_within 5 = .ok (.iload_n 0, 1) := by decide +kernel
theorem dX10_within_6 : decode cX10_within 6 = .ok (.iload_n 2, 1) := by decide +kernel
theorem dX10_within_7 : decode cX10_within 7 = .ok (.if_icmp .gt 7, 3) := by decide +kernel
theorem dX10_within_10 : decode cX10_within 10 = .ok (.iconst 1, 1) := by decide +kernel
theorem dX10_within_11 : decode cX10_within 11 = .ok (.goto 4, 3) := by decide +kernel
theorem dX10_within_14 : decode cX10_within 14 = .ok (.iconst 0, 1) := by decide +kernel
theorem dX10_within_15 : decode cX10_within 15 = .ok (.ireturn, 1) := by decide +kernel
abbrev j10_within : xJ := (cX10_within, 3, RX10, 1, 0, 0)
def F10_within (x0 : Int32) (x1 : Int32) (x2 : Int32) : Option (Int32) :=
  if x0 < x1 then (some ((0 : Int32))) else (if x2 < x0 then (some ((0 : Int32))) else (some ((1 : Int32))))
theorem T10_within {X : xX} {x0 : Int32} {x1 : Int32} {x2 : Int32}  {v : Int32} (hX : xIs (j10_within) X ((some .boolean)) (some (.int v)) ([] : xHp)) (hf : F10_within x0 x1 x2 = some v) : xV (j10_within) X 0 0 ([] : xHp) 0 [(0, .int x0), (1, .int x1), (2, .int x2)] [] := by
  unfold F10_within at hf
  refine xV_iload_n 1 rfl dX10_within_0 rfl 0 rfl ?_
  refine xV_iload_n 2 rfl dX10_within_1 rfl 1 rfl ?_
  refine xV_icmp_lt (tgt := 14) 5 rfl dX10_within_2 (by decide) (fun h2 => ?_) (fun h2 => ?_)
  · have hf := xif_t hf h2
    refine xV_iconst 15 rfl dX10_within_14 xk_i0 ?_
    cases hf
    exact xV_iret hX dX10_within_15 (xbo_ok rfl) (Nat.zero_le _) (Nat.zero_le _)
  · have hf := xif_f hf h2
    refine xV_iload_n 6 rfl dX10_within_5 rfl 0 rfl ?_
    refine xV_iload_n 7 rfl dX10_within_6 rfl 2 rfl ?_
    refine xV_icmp_gt (tgt := 14) 10 rfl dX10_within_7 (by decide) (fun h7 => ?_) (fun h7 => ?_)
    · have hf := xif_t hf h7
      refine xV_iconst 15 rfl dX10_within_14 xk_i0 ?_
      cases hf
      exact xV_iret hX dX10_within_15 (xbo_ok rfl) (Nat.zero_le _) (Nat.zero_le _)
    · have hf := xif_f hf h7
      refine xV_iconst 11 rfl dX10_within_10 xk_i1 ?_
      refine xV_goto (tgt := 15) dX10_within_11 (by decide) ?_
      cases hf
      exact xV_iret hX dX10_within_15 (xbo_ok rfl) (Nat.zero_le _) (Nat.zero_le _)
theorem C10_within (l : Launch) {x0 : Int32} {x1 : Int32} {x2 : Int32}  {v : Int32} (hf : F10_within x0 x1 x2 = some v) : xCt l yX10_within ((some .boolean)) j10_within [.int x0, .int x1, .int x2] ([] : xHp) (some (.int v)) ([] : xHp) := xCt_of (by decide) rfl (Nat.le_of_ble_eq_true rfl) (fun _ hX => T10_within hX hf)
theorem m10_within : xMd yX10_within RX10 ((some .boolean)) j10_within 3 := ⟨List.mem_of_getElem? (i := 415) (by decide +kernel), List.mem_of_getElem? (i := 5) (by decide +kernel), rfl, by decide +kernel⟩
theorem s10_within : Cond.static yX10_within ∈ wsL_law0 := List.mem_of_getElem? (i := 414) (by decide +kernel)

theorem k10_7 : Cond.methodLink RX10 7 yX10_within ∈ wsL_law0 := List.mem_of_getElem? (i := 413) (by decide +kernel)
theorem dX10_isSide_0 : decode cX10_isSide 0 = .ok (.iload_n 0, 1) := by decide +kernel
theorem dX10_isSide_1 : decode cX10_isSide 1 = .ok (.iconst 0, 1) := by decide +kernel
theorem dX10_isSide_2 : decode cX10_isSide 2 = .ok (.iconst 1, 1) := by decide +kernel
theorem dX10_isSide_3 : decode cX10_isSide 3 = .ok (.invokestatic 7, 3) := by decide +kernel
theorem dX10_isSide_6 : decode cX10_isSide 6 = .ok (.ireturn, 1) := by decide +kernel
abbrev j10_isSide : xJ := (cX10_isSide, 1, RX10, 2, 0, 0)
def F10_isSide (x0 : Int32) : Option (Int32) :=
  (F10_within x0 (0 : Int32) (1 : Int32)).bind (fun v3 => xg (xbo v3) (some (v3)))
theorem T10_isSide {X : xX} {x0 : Int32}  {v : Int32} (hX : xIs (j10_isSide) X ((some .boolean)) (some (.int v)) ([] : xHp)) (hf : F10_isSide x0 = some v) : xV (j10_isSide) X 0 0 ([] : xHp) 0 [(0, .int x0)] [] := by
  unfold F10_isSide at hf
  refine xV_iload_n 1 rfl dX10_isSide_0 rfl 0 rfl ?_
  refine xV_iconst 2 rfl dX10_isSide_1 xk_i0 ?_
  refine xV_iconst 3 rfl dX10_isSide_2 xk_i1 ?_
  obtain ⟨v3, hv3, hf⟩ := xb_s hf
  refine xV_st0 (rest := []) 6 rfl dX10_isSide_3 rfl (C10_within X.1.2.1 hv3) m10_within s10_within k10_7 rfl (Nat.le_of_ble_eq_true rfl) (Nat.le_of_ble_eq_true rfl) (Nat.le_of_ble_eq_true rfl) ⟨Nat.le_refl _, Nat.le_refl _⟩ ?_
  show xV j10_isSide X 0 0 ([] : xHp) 6 [(0, .int x0)] [.int v3]
  obtain ⟨hgr, hf⟩ := xg_s hf
  cases hf
  exact xV_iret hX dX10_isSide_6 (xbo_ok hgr) (Nat.zero_le _) (Nat.zero_le _)
theorem C10_isSide (l : Launch) {x0 : Int32}  {v : Int32} (hf : F10_isSide x0 = some v) : xCt l yX10_isSide ((some .boolean)) j10_isSide [.int x0] ([] : xHp) (some (.int v)) ([] : xHp) := xCt_of (by decide) rfl (Nat.le_of_ble_eq_true rfl) (fun _ hX => T10_isSide hX hf)
theorem m10_isSide : xMd yX10_isSide RX10 ((some .boolean)) j10_isSide 1 := ⟨List.mem_of_getElem? (i := 544) (by decide +kernel), List.mem_of_getElem? (i := 5) (by decide +kernel), rfl, by decide +kernel⟩
theorem s10_isSide : Cond.static yX10_isSide ∈ wsL_law0 := List.mem_of_getElem? (i := 543) (by decide +kernel)
theorem xk_b8 : (Int8.ofInt (8)).toInt32 = (8 : Int32) := by decide
theorem xk_b24 : (Int8.ofInt (24)).toInt32 = (24 : Int32) := by decide

theorem dX10_at_0 : decode cX10_at 0 = .ok (.bipush 8, 2) := by decide +kernel
theorem dX10_at_2 : decode cX10_at 2 = .ok (.bipush 24, 2) := by decide +kernel
theorem dX10_at_4 : decode cX10_at 4 = .ok (.iload_n 0, 1) := by decide +kernel
theorem dX10_at_5 : decode cX10_at 5 = .ok (.imul, 1) := by decide +kernel
theorem dX10_at_6 : decode cX10_at 6 = .ok (.iadd, 1) := by decide +kernel
theorem dX10_at_7 : decode cX10_at 7 = .ok (.iload_n 1, 1) := by decide +kernel
theorem dX10_at_8 : decode cX10_at 8 = .ok (.iadd, 1) := by decide +kernel
theorem dX10_at_9 : decode cX10_at 9 = .ok (.ireturn, 1) := by decide +kernel
abbrev j10_at : xJ := (cX10_at, 2, RX10, 1, 0, 0)
def F10_at (x0 : Int32) (x1 : Int32) : Option (Int32) :=
  some ((((8 : Int32) + ((24 : Int32) * x0)) + x1))
theorem T10_at {X : xX} {x0 : Int32} {x1 : Int32}  {v : Int32} (hX : xIs (j10_at) X ((some .int)) (some (.int v)) ([] : xHp)) (hf : F10_at x0 x1 = some v) : xV (j10_at) X 0 0 ([] : xHp) 0 [(0, .int x0), (1, .int x1)] [] := by
  unfold F10_at at hf
  refine xV_bipush 2 rfl dX10_at_0 xk_b8 ?_
  refine xV_bipush 4 rfl dX10_at_2 xk_b24 ?_
  refine xV_iload_n 5 rfl dX10_at_4 rfl 0 rfl ?_
  refine xV_imul 6 rfl dX10_at_5 ?_
  refine xV_iadd 7 rfl dX10_at_6 ?_
  refine xV_iload_n 8 rfl dX10_at_7 rfl 1 rfl ?_
  refine xV_iadd 9 rfl dX10_at_8 ?_
  cases hf
  exact xV_iret hX dX10_at_9 rfl (Nat.zero_le _) (Nat.zero_le _)
theorem C10_at (l : Launch) {x0 : Int32} {x1 : Int32}  {v : Int32} (hf : F10_at x0 x1 = some v) : xCt l yX10_at ((some .int)) j10_at [.int x0, .int x1] ([] : xHp) (some (.int v)) ([] : xHp) := xCt_of (by decide) rfl (Nat.le_of_ble_eq_true rfl) (fun _ hX => T10_at hX hf)
theorem m10_at : xMd yX10_at RX10 ((some .int)) j10_at 2 := ⟨List.mem_of_getElem? (i := 455) (by decide +kernel), List.mem_of_getElem? (i := 5) (by decide +kernel), rfl, by decide +kernel⟩
theorem s10_at : Cond.static yX10_at ∈ wsL_law0 := List.mem_of_getElem? (i := 454) (by decide +kernel)

theorem f10_17 : xFl RX10 17 10 1 := ⟨_, rfl, by decide, List.mem_of_getElem? (i := 122) (by decide +kernel)⟩
theorem dX10_worth_0 : decode cX10_worth 0 = .ok (.aload_n 0, 1) := by decide +kernel
theorem dX10_worth_1 : decode cX10_worth 1 = .ok (.getfield 17, 3) := by decide +kernel
theorem dX10_worth_4 : decode cX10_worth 4 = .ok (.iconst 1, 1) := by decide +kernel
theorem dX10_worth_5 : decode cX10_worth 5 = .ok (.iload_n 1, 1) := by decide +kernel
theorem dX10_worth_6 : decode cX10_worth 6 = .ok (.iadd, 1) := by decide +kernel
theorem dX10_worth_7 : decode cX10_worth 7 = .ok (.iaload, 1) := by decide +kernel
theorem dX10_worth_8 : decode cX10_worth 8 = .ok (.ireturn, 1) := by decide +kernel
abbrev j10_worth : xJ := (cX10_worth, 2, RX10, 1, 0, 0)
def F10_worth (x1 : Int32) (c_told : (Nat → Int32)) : Option (Int32) :=
  xg (xin ((1 : Int32) + x1) 56) (some ((c_told (xn ((1 : Int32) + x1)))))
theorem T10_worth {X : xX} {x1 : Int32} {c_told : (Nat → Int32)} {c_thrown : Int32} {c_read : (Nat → Int32)} {c_many : (Nat → Int32)} {c_eights : (Nat → Int32)} {c_gains : (Nat → Int32)} {c_notes : (Nat → Int32)} {c_seen : (Nat → Int32)} {c_turns : (Nat → Int32)} {c_drawn : (Nat → Int32)} {c_state : Int32} {c_tape : (Nat → Int32)} {c_taped : Int32} {c_size : Int32} {c_from : Int32} {c_next : Int32} {c_token : Int32} {c_value : Int32} {c_fault : Int32} {c_number : Int32} {c_fives : (Nat → Int32)} {c_isLeft : (Nat → Int32)} {c_wentTimes : Int32} {c_goes : (Nat → Int32)} {c_isLeftLaid : Int32} {c_game : (Nat → Int32)} {c_rows : Int32} {c_columns : Int32} {c_isFound : Int32} {c_bestValue : Int64} {c_bestBelow : Int64} {c_bestShare : (Nat → Int64)} {c_share : (Nat → Int64)} {c_matrix : (Nat → Int64)} {c_system : (Nat → Int64)} {c_shares : (Nat → Int32)} {c_allShares : Int32} {v : Int32} (hX : xIs (j10_worth) X ((some .int)) (some (.int v)) (hM c_thrown c_told c_read c_many c_eights c_gains c_notes c_seen c_turns c_drawn c_state c_tape c_taped c_size c_from c_next c_token c_value c_fault c_number c_fives c_isLeft c_wentTimes c_goes c_isLeftLaid c_game c_rows c_columns c_isFound c_bestValue c_bestBelow c_bestShare c_share c_matrix c_system c_shares c_allShares)) (hf : F10_worth x1 c_told = some v) : xV (j10_worth) X 0 0 (hM c_thrown c_told c_read c_many c_eights c_gains c_notes c_seen c_turns c_drawn c_state c_tape c_taped c_size c_from c_next c_token c_value c_fault c_number c_fives c_isLeft c_wentTimes c_goes c_isLeftLaid c_game c_rows c_columns c_isFound c_bestValue c_bestBelow c_bestShare c_share c_matrix c_system c_shares c_allShares) 0 [(0, .ref 0), (1, .int x1)] [] := by
  unfold F10_worth at hf
  refine xV_aload_n 1 rfl dX10_worth_0 rfl 0 rfl ?_
  refine xV_get (v := .ref 1) 4 rfl dX10_worth_1 f10_17 rfl rfl ?_
  refine xV_iconst 5 rfl dX10_worth_4 xk_i1 ?_
  refine xV_iload_n 6 rfl dX10_worth_5 rfl 1 rfl ?_
  refine xV_iadd 7 rfl dX10_worth_6 ?_
  obtain ⟨hg7, hf⟩ := xg_s hf
  refine xV_iaload 8 rfl dX10_worth_7 rfl (xin_ok hg7) rfl ?_
  cases hf
  exact xV_iret hX dX10_worth_8 rfl (Nat.zero_le _) (Nat.zero_le _)
theorem C10_worth (l : Launch) {x1 : Int32} {c_told : (Nat → Int32)} {c_thrown : Int32} {c_read : (Nat → Int32)} {c_many : (Nat → Int32)} {c_eights : (Nat → Int32)} {c_gains : (Nat → Int32)} {c_notes : (Nat → Int32)} {c_seen : (Nat → Int32)} {c_turns : (Nat → Int32)} {c_drawn : (Nat → Int32)} {c_state : Int32} {c_tape : (Nat → Int32)} {c_taped : Int32} {c_size : Int32} {c_from : Int32} {c_next : Int32} {c_token : Int32} {c_value : Int32} {c_fault : Int32} {c_number : Int32} {c_fives : (Nat → Int32)} {c_isLeft : (Nat → Int32)} {c_wentTimes : Int32} {c_goes : (Nat → Int32)} {c_isLeftLaid : Int32} {c_game : (Nat → Int32)} {c_rows : Int32} {c_columns : Int32} {c_isFound : Int32} {c_bestValue : Int64} {c_bestBelow : Int64} {c_bestShare : (Nat → Int64)} {c_share : (Nat → Int64)} {c_matrix : (Nat → Int64)} {c_system : (Nat → Int64)} {c_shares : (Nat → Int32)} {c_allShares : Int32} {v : Int32} (hf : F10_worth x1 c_told = some v) : xCt l yX10_worth ((some .int)) j10_worth [.ref 0, .int x1] (hM c_thrown c_told c_read c_many c_eights c_gains c_notes c_seen c_turns c_drawn c_state c_tape c_taped c_size c_from c_next c_token c_value c_fault c_number c_fives c_isLeft c_wentTimes c_goes c_isLeftLaid c_game c_rows c_columns c_isFound c_bestValue c_bestBelow c_bestShare c_share c_matrix c_system c_shares c_allShares) (some (.int v)) (hM c_thrown c_told c_read c_many c_eights c_gains c_notes c_seen c_turns c_drawn c_state c_tape c_taped c_size c_from c_next c_token c_value c_fault c_number c_fives c_isLeft c_wentTimes c_goes c_isLeftLaid c_game c_rows c_columns c_isFound c_bestValue c_bestBelow c_bestShare c_share c_matrix c_system c_shares c_allShares) := xCt_of (by decide) rfl (Nat.le_of_ble_eq_true rfl) (fun _ hX => T10_worth hX hf)
theorem m10_worth : xMd yX10_worth RX10 ((some .int)) j10_worth 1 := ⟨List.mem_of_getElem? (i := 168) (by decide +kernel), List.mem_of_getElem? (i := 5) (by decide +kernel), rfl, by decide +kernel⟩
theorem v10_worth : xMv yX10_worth RX10 := ⟨List.mem_of_getElem? (i := 166) (by decide +kernel), List.mem_of_getElem? (i := 167) (by decide +kernel)⟩
theorem xk_in0_56 : vp_in (0 : Int32) 56 := xin_ok (by decide)
theorem xk_j0 : (0 : Int32).toNatClampNeg = 0 := by decide

theorem dX10_worths_0 : decode cX10_worths 0 = .ok (.iconst 0, 1) := by decide +kernel
theorem dX10_worths_1 : decode cX10_worths 1 = .ok (.istore_n 1, 1) := by decide +kernel
theorem dX10_worths_2 : decode cX10_worths 2 = .ok (.iconst 0, 1) := by decide +kernel
theorem dX10_worths_3 : decode cX10_worths 3 = .ok (.istore_n 2, 1) := by decide +kernel
theorem dX10_worths_4 : decode cX10_worths 4 = .ok (.iload_n 2, 1) := by decide +kernel
theorem dX10_worths_5 : decode cX10_worths 5 = .ok (.aload_n 0, 1) := by decide +kernel
theorem dX10_worths_6 : decode cX10_worths 6 = .ok (.iconst 0, 1) := by decide +kernel
theorem dX10_worths_7 : decode cX10_worths 7 = .ok (.iaload, 1) := by decide +kernel
theorem dX10_worths_8 : decode cX10_worths 8 = .ok (.if_icmp .ge 17, 3) := by decide +kernel
theorem dX10_worths_11 : decode cX10_worths 11 = .ok (.iload_n 1, 1) := by decide +kernel
theorem dX10_worths_12 : decode cX10_worths 12 = .ok (.aload_n 0, 1) := by decide +kernel
theorem dX10_worths_13 : decode cX10_worths 13 = .ok (.iconst 1, 1) := by decide +kernel
theorem dX10_worths_14 : decode cX10_worths 14 = .ok (.iload_n 2, 1) := by decide +kernel
theorem dX10_worths_15 : decode cX10_worths 15 = .ok (.iadd, 1) := by decide +kernel
theorem dX10_worths_16 : decode cX10_worths 16 = .ok (.iaload, 1) := by decide +kernel
theorem dX10_worths_17 : decode cX10_worths 17 = .ok (.iadd, 1) := by decide +kernel
theorem dX10_worths_18 : decode cX10_worths 18 = .ok (.istore_n 1, 1) := by decide +kernel
theorem dX10_worths_19 : decode cX10_worths 19 = .ok (.iinc 2 1, 3) := by decide +kernel
theorem dX10_worths_22 : decode cX10_worths 22 = .ok (.goto (-18), 3) := by decide +kernel
theorem dX10_worths_25 : decode cX10_worths 25 = .ok (.iload_n 1, 1) := by decide +kernel
theorem dX10_worths_26 : decode cX10_worths 26 = .ok (.ireturn, 1) := by decide +kernel
abbrev j10_worths : xJ := (cX10_worths, 3, RX10, 1, 0, 0)
def F10_worths_b4 (z : Nat) (w : Nat) (x1 : Int32) (x2 : Int32) (c_of : (Nat → Int32)) : Option (Int32) := match w with
  | 0 => none
  | w + 1 => if (c_of 0) ≤ x2 then (some (x1)) else (xg (xin ((1 : Int32) + x2) 56) (F10_worths_b4 z w (x1 + (c_of (xn ((1 : Int32) + x2)))) (x2 + (1 : Int32)) c_of))
theorem T10_worths_b4 {X : xX} {c_of : (Nat → Int32)} {z : Nat} {v : Int32} (hX : xIs (j10_worths) X ((some .int)) (some (.int v)) (hA c_of)) : ∀ (w : Nat) {x1 : Int32} {x2 : Int32}, F10_worths_b4 z w x1 x2 c_of = some v → xV (j10_worths) X 0 0 (hA c_of) 4 [(0, .ref 0), (1, .int x1), (2, .int x2)] [] := by
  intro w
  induction w with
  | zero => intro x1 x2 hf; cases hf
  | succ w ih =>
    intro x1 x2 hf
    unfold F10_worths_b4 at hf
    refine xV_iload_n 5 rfl dX10_worths_4 rfl 2 rfl ?_
    refine xV_aload_n 6 rfl dX10_worths_5 rfl 0 rfl ?_
    refine xV_iconst 7 rfl dX10_worths_6 xk_i0 ?_
    refine xV_iaload 8 rfl dX10_worths_7 rfl xk_in0_56 xk_j0 ?_
    refine xV_icmp_ge (tgt := 25) 11 rfl dX10_worths_8 (by decide) (fun h8 => ?_) (fun h8 => ?_)
    · have hf := xif_t hf h8
      refine xV_iload_n 26 rfl dX10_worths_25 rfl 1 rfl ?_
      cases hf
      exact xV_iret hX dX10_worths_26 rfl (Nat.zero_le _) (Nat.zero_le _)
    · have hf := xif_f hf h8
      refine xV_iload_n 12 rfl dX10_worths_11 rfl 1 rfl ?_
      refine xV_aload_n 13 rfl dX10_worths_12 rfl 0 rfl ?_
      refine xV_iconst 14 rfl dX10_worths_13 xk_i1 ?_
      refine xV_iload_n 15 rfl dX10_worths_14 rfl 2 rfl ?_
      refine xV_iadd 16 rfl dX10_worths_15 ?_
      obtain ⟨hg16, hf⟩ := xg_s hf
      refine xV_iaload 17 rfl dX10_worths_16 rfl (xin_ok hg16) rfl ?_
      refine xV_iadd 18 rfl dX10_worths_17 ?_
      refine xV_istore_n (L' := [(1, .int (x1 + (c_of (xn ((1 : Int32) + x2))))), (0, .ref 0), (2, .int x2)]) 19 rfl dX10_worths_18 rfl (by decide) rfl ?_
      refine xV_iinc (L' := [(2, .int (x2 + (1 : Int32))), (1, .int (x1 + (c_of (xn ((1 : Int32) + x2))))), (0, .ref 0)]) 22 rfl dX10_worths_19 2 rfl (xk_inc xk_i1) (by decide) rfl ?_
      refine xV_goto (tgt := 4) dX10_worths_22 (by decide) ?_
      refine xV_sub [2, 1, 0] rfl ?_
      exact ih hf
def F10_worths (z : Nat) (c_of : (Nat → Int32)) : Option (Int32) :=
  F10_worths_b4 z z (0 : Int32) (0 : Int32) c_of
theorem T10_worths {X : xX} {z : Nat} {c_of : (Nat → Int32)}  {v : Int32} (hX : xIs (j10_worths) X ((some .int)) (some (.int v)) (hA c_of)) (hf : F10_worths z c_of = some v) : xV (j10_worths) X 0 0 (hA c_of) 0 [(0, .ref 0)] [] := by
  unfold F10_worths at hf
  refine xV_iconst 1 rfl dX10_worths_0 xk_i0 ?_
  refine xV_istore_n (L' := [(1, .int (0 : Int32)), (0, .ref 0)]) 2 rfl dX10_worths_1 rfl (by decide) rfl ?_
  refine xV_iconst 3 rfl dX10_worths_2 xk_i0 ?_
  refine xV_istore_n (L' := [(2, .int (0 : Int32)), (1, .int (0 : Int32)), (0, .ref 0)]) 4 rfl dX10_worths_3 rfl (by decide) rfl ?_
  refine xV_sub [2, 1, 0] rfl ?_
  exact T10_worths_b4 hX _ hf
theorem C10_worths (l : Launch) {z : Nat} {c_of : (Nat → Int32)}  {v : Int32} (hf : F10_worths z c_of = some v) : xCt l yX10_worths ((some .int)) j10_worths [.ref 0] (hA c_of) (some (.int v)) (hA c_of) := xCt_of (by decide) rfl (Nat.le_of_ble_eq_true rfl) (fun _ hX => T10_worths hX hf)
theorem m10_worths : xMd yX10_worths RX10 ((some .int)) j10_worths 1 := ⟨List.mem_of_getElem? (i := 441) (by decide +kernel), List.mem_of_getElem? (i := 5) (by decide +kernel), rfl, by decide +kernel⟩
theorem s10_worths : Cond.static yX10_worths ∈ wsL_law0 := List.mem_of_getElem? (i := 440) (by decide +kernel)
theorem xk_s128 : (Int16.ofInt (128)).toInt32 = (128 : Int32) := by decide
theorem f10_27 : xFl RX10 27 10 4 := ⟨_, rfl, by decide, List.mem_of_getElem? (i := 125) (by decide +kernel)⟩
theorem dX10_eightsOf_0 : decode cX10_eightsOf 0 = .ok (.aload_n 0, 1) := by decide +kernel
theorem dX10_eightsOf_1 : decode cX10_eightsOf 1 = .ok (.getfield 27, 3) := by decide +kernel
theorem dX10_eightsOf_4 : decode cX10_eightsOf 4 = .ok (.sipush 128, 3) := by decide +kernel
theorem dX10_eightsOf_7 : decode cX10_eightsOf 7 = .ok (.iload_n 1, 1) := by decide +kernel
theorem dX10_eightsOf_8 : decode cX10_eightsOf 8 = .ok (.imul, 1) := by decide +kernel
theorem dX10_eightsOf_9 : decode cX10_eightsOf 9 = .ok (.iload_n 2, 1) := by decide +kernel
theorem dX10_eightsOf_10 : decode cX10_eightsOf 10 = .ok (.iadd, 1) := by decide +kernel
theorem dX10_eightsOf_11 : decode cX10_eightsOf 11 = .ok (.iaload, 1) := by decide +kernel
theorem dX10_eightsOf_12 : decode cX10_eightsOf 12 = .ok (.ireturn, 1) := by decide +kernel
abbrev j10_eightsOf : xJ := (cX10_eightsOf, 3, RX10, 1, 0, 0)
def F10_eightsOf (x1 : Int32) (x2 : Int32) (c_eights : (Nat → Int32)) : Option (Int32) :=
  xg (xin (((128 : Int32) * x1) + x2) 256) (some ((c_eights (xn (((128 : Int32) * x1) + x2)))))
theorem T10_eightsOf {X : xX} {x1 : Int32} {x2 : Int32} {c_eights : (Nat → Int32)} {c_thrown : Int32} {c_told : (Nat → Int32)} {c_read : (Nat → Int32)} {c_many : (Nat → Int32)} {c_gains : (Nat → Int32)} {c_notes : (Nat → Int32)} {c_seen : (Nat → Int32)} {c_turns : (Nat → Int32)} {c_drawn : (Nat → Int32)} {c_state : Int32} {c_tape : (Nat → Int32)} {c_taped : Int32} {c_size : Int32} {c_from : Int32} {c_next : Int32} {c_token : Int32} {c_value : Int32} {c_fault : Int32} {c_number : Int32} {c_fives : (Nat → Int32)} {c_isLeft : (Nat → Int32)} {c_wentTimes : Int32} {c_goes : (Nat → Int32)} {c_isLeftLaid : Int32} {c_game : (Nat → Int32)} {c_rows : Int32} {c_columns : Int32} {c_isFound : Int32} {c_bestValue : Int64} {c_bestBelow : Int64} {c_bestShare : (Nat → Int64)} {c_share : (Nat → Int64)} {c_matrix : (Nat → Int64)} {c_system : (Nat → Int64)} {c_shares : (Nat → Int32)} {c_allShares : Int32} {v : Int32} (hX : xIs (j10_eightsOf) X ((some .int)) (some (.int v)) (hM c_thrown c_told c_read c_many c_eights c_gains c_notes c_seen c_turns c_drawn c_state c_tape c_taped c_size c_from c_next c_token c_value c_fault c_number c_fives c_isLeft c_wentTimes c_goes c_isLeftLaid c_game c_rows c_columns c_isFound c_bestValue c_bestBelow c_bestShare c_share c_matrix c_system c_shares c_allShares)) (hf : F10_eightsOf x1 x2 c_eights = some v) : xV (j10_eightsOf) X 0 0 (hM c_thrown c_told c_read c_many c_eights c_gains c_notes c_seen c_turns c_drawn c_state c_tape c_taped c_size c_from c_next c_token c_value c_fault c_number c_fives c_isLeft c_wentTimes c_goes c_isLeftLaid c_game c_rows c_columns c_isFound c_bestValue c_bestBelow c_bestShare c_share c_matrix c_system c_shares c_allShares) 0 [(0, .ref 0), (1, .int x1), (2, .int x2)] [] := by
  unfold F10_eightsOf at hf
  refine xV_aload_n 1 rfl dX10_eightsOf_0 rfl 0 rfl ?_
  refine xV_get (v := .ref 4) 4 rfl dX10_eightsOf_1 f10_27 rfl rfl ?_
  refine xV_sipush 7 rfl dX10_eightsOf_4 xk_s128 ?_
  refine xV_iload_n 8 rfl dX10_eightsOf_7 rfl 1 rfl ?_
  refine xV_imul 9 rfl dX10_eightsOf_8 ?_
  refine xV_iload_n 10 rfl dX10_eightsOf_9 rfl 2 rfl ?_
  refine xV_iadd 11 rfl dX10_eightsOf_10 ?_
  obtain ⟨hg11, hf⟩ := xg_s hf
  refine xV_iaload 12 rfl dX10_eightsOf_11 rfl (xin_ok hg11) rfl ?_
  cases hf
  exact xV_iret hX dX10_eightsOf_12 rfl (Nat.zero_le _) (Nat.zero_le _)
theorem C10_eightsOf (l : Launch) {x1 : Int32} {x2 : Int32} {c_eights : (Nat → Int32)} {c_thrown : Int32} {c_told : (Nat → Int32)} {c_read : (Nat → Int32)} {c_many : (Nat → Int32)} {c_gains : (Nat → Int32)} {c_notes : (Nat → Int32)} {c_seen : (Nat → Int32)} {c_turns : (Nat → Int32)} {c_drawn : (Nat → Int32)} {c_state : Int32} {c_tape : (Nat → Int32)} {c_taped : Int32} {c_size : Int32} {c_from : Int32} {c_next : Int32} {c_token : Int32} {c_value : Int32} {c_fault : Int32} {c_number : Int32} {c_fives : (Nat → Int32)} {c_isLeft : (Nat → Int32)} {c_wentTimes : Int32} {c_goes : (Nat → Int32)} {c_isLeftLaid : Int32} {c_game : (Nat → Int32)} {c_rows : Int32} {c_columns : Int32} {c_isFound : Int32} {c_bestValue : Int64} {c_bestBelow : Int64} {c_bestShare : (Nat → Int64)} {c_share : (Nat → Int64)} {c_matrix : (Nat → Int64)} {c_system : (Nat → Int64)} {c_shares : (Nat → Int32)} {c_allShares : Int32} {v : Int32} (hf : F10_eightsOf x1 x2 c_eights = some v) : xCt l yX10_eightsOf ((some .int)) j10_eightsOf [.ref 0, .int x1, .int x2] (hM c_thrown c_told c_read c_many c_eights c_gains c_notes c_seen c_turns c_drawn c_state c_tape c_taped c_size c_from c_next c_token c_value c_fault c_number c_fives c_isLeft c_wentTimes c_goes c_isLeftLaid c_game c_rows c_columns c_isFound c_bestValue c_bestBelow c_bestShare c_share c_matrix c_system c_shares c_allShares) (some (.int v)) (hM c_thrown c_told c_read c_many c_eights c_gains c_notes c_seen c_turns c_drawn c_state c_tape c_taped c_size c_from c_next c_token c_value c_fault c_number c_fives c_isLeft c_wentTimes c_goes c_isLeftLaid c_game c_rows c_columns c_isFound c_bestValue c_bestBelow c_bestShare c_share c_matrix c_system c_shares c_allShares) := xCt_of (by decide) rfl (Nat.le_of_ble_eq_true rfl) (fun _ hX => T10_eightsOf hX hf)
theorem m10_eightsOf : xMd yX10_eightsOf RX10 ((some .int)) j10_eightsOf 2 := ⟨List.mem_of_getElem? (i := 164) (by decide +kernel), List.mem_of_getElem? (i := 5) (by decide +kernel), rfl, by decide +kernel⟩
theorem v10_eightsOf : xMv yX10_eightsOf RX10 := ⟨List.mem_of_getElem? (i := 162) (by decide +kernel), List.mem_of_getElem? (i := 163) (by decide +kernel)⟩
theorem xk_i3 : Int32.ofInt (3) = (3 : Int32) := by decide
theorem xk_b7 : (Int8.ofInt (7)).toInt32 = (7 : Int32) := by decide
theorem k10_86 : Cond.methodLink RX10 86 yX10_eightsOf ∈ wsL_law0 := List.mem_of_getElem? (i := 161) (by decide +kernel)
theorem dX10_on_0 : decode cX10_on 0 = .ok (.aload_n 0, 1) := by decide +kernel
theorem dX10_on_1 : decode cX10_on 1 = .ok (.iload_n 1, 1) := by decide +kernel
theorem dX10_on_2 : decode cX10_on 2 = .ok (.iload_n 2, 1) := by decide +kernel
theorem dX10_on_3 : decode cX10_on 3 = .ok (.invokevirtual 86, 3) := by decide +kernel
theorem dX10_on_6 : decode cX10_on 6 = .ok (.iconst 3, 1) := by decide +kernel
theorem dX10_on_7 : decode cX10_on 7 = .ok (.aload_n 0, 1) := by decide +kernel
theorem dX10_on_8 : decode cX10_on 8 = .ok (.getfield 17, 3) := by decide +kernel
theorem dX10_on_11 : decode cX10_on 11 = .ok (.iconst 0, 1) := by decide +kernel
theorem dX10_on_12 : decode cX10_on 12 = .ok (.iaload, 1) := by decide +kernel
theorem dX10_on_13 : decode cX10_on 13 = .ok (.iconst 1, 1) := by decide +kernel
theorem dX10_on_14 : decode cX10_on 14 = .ok (.isub, 1) := by decide +kernel
theorem dX10_on_15 : decode cX10_on 15 = .ok (.iload_n 3, 1) := by decide +kernel
theorem dX10_on_16 : decode cX10_on 16 = .ok (.isub, 1) := by decide +kernel
theorem dX10_on_17 : decode cX10_on 17 = .ok (.imul, 1) := by decide +kernel
theorem dX10_on_18 : decode cX10_on 18 = .ok (.ishr, 1) := by decide +kernel
theorem dX10_on_19 : decode cX10_on 19 = .ok (.bipush 7, 2) := by decide +kernel
theorem dX10_on_21 : decode cX10_on 21 = .ok (.iand, 1) := by decide +kernel
theorem dX10_on_22 : decode cX10_on 22 = .ok (.ireturn, 1) := by decide +kernel
abbrev j10_on : xJ := (cX10_on, 4, RX10, 2, 0, 0)
def F10_on (x1 : Int32) (x2 : Int32) (x3 : Int32) (c_told : (Nat → Int32)) (c_eights : (Nat → Int32)) : Option (Int32) :=
  (F10_eightsOf x1 x2 c_eights).bind (fun v3 => some (((v3 >>> (((3 : Int32) * (((c_told 0) - (1 : Int32)) - x3)) &&& 31)) &&& (7 : Int32))))
theorem T10_on {X : xX} {x1 : Int32} {x2 : Int32} {x3 : Int32} {c_told : (Nat → Int32)} {c_eights : (Nat → Int32)} {c_thrown : Int32} {c_read : (Nat → Int32)} {c_many : (Nat → Int32)} {c_gains : (Nat → Int32)} {c_notes : (Nat → Int32)} {c_seen : (Nat → Int32)} {c_turns : (Nat → Int32)} {c_drawn : (Nat → Int32)} {c_state : Int32} {c_tape : (Nat → Int32)} {c_taped : Int32} {c_size : Int32} {c_from : Int32} {c_next : Int32} {c_token : Int32} {c_value : Int32} {c_fault : Int32} {c_number : Int32} {c_fives : (Nat → Int32)} {c_isLeft : (Nat → Int32)} {c_wentTimes : Int32} {c_goes : (Nat → Int32)} {c_isLeftLaid : Int32} {c_game : (Nat → Int32)} {c_rows : Int32} {c_columns : Int32} {c_isFound : Int32} {c_bestValue : Int64} {c_bestBelow : Int64} {c_bestShare : (Nat → Int64)} {c_share : (Nat → Int64)} {c_matrix : (Nat → Int64)} {c_system : (Nat → Int64)} {c_shares : (Nat → Int32)} {c_allShares : Int32} {v : Int32} (hX : xIs (j10_on) X ((some .int)) (some (.int v)) (hM c_thrown c_told c_read c_many c_eights c_gains c_notes c_seen c_turns c_drawn c_state c_tape c_taped c_size c_from c_next c_token c_value c_fault c_number c_fives c_isLeft c_wentTimes c_goes c_isLeftLaid c_game c_rows c_columns c_isFound c_bestValue c_bestBelow c_bestShare c_share c_matrix c_system c_shares c_allShares)) (hf : F10_on x1 x2 x3 c_told c_eights = some v) : xV (j10_on) X 0 0 (hM c_thrown c_told c_read c_many c_eights c_gains c_notes c_seen c_turns c_drawn c_state c_tape c_taped c_size c_from c_next c_token c_value c_fault c_number c_fives c_isLeft c_wentTimes c_goes c_isLeftLaid c_game c_rows c_columns c_isFound c_bestValue c_bestBelow c_bestShare c_share c_matrix c_system c_shares c_allShares) 0 [(0, .ref 0), (1, .int x1), (2, .int x2), (3, .int x3)] [] := by
  unfold F10_on at hf
  refine xV_aload_n 1 rfl dX10_on_0 rfl 0 rfl ?_
  refine xV_iload_n 2 rfl dX10_on_1 rfl 1 rfl ?_
  refine xV_iload_n 3 rfl dX10_on_2 rfl 2 rfl ?_
  obtain ⟨v3, hv3, hf⟩ := xb_s hf
  refine xV_same (rest := []) 6 rfl dX10_on_3 rfl (C10_eightsOf X.1.2.1 hv3) m10_eightsOf v10_eightsOf k10_86 rfl rfl rfl rfl rfl (Nat.le_of_ble_eq_true rfl) (Nat.le_of_ble_eq_true rfl) (Nat.le_of_ble_eq_true rfl) ⟨Nat.le_refl _, Nat.le_refl _⟩ ?_
  show xV j10_on X 0 0 (hM c_thrown c_told c_read c_many c_eights c_gains c_notes c_seen c_turns c_drawn c_state c_tape c_taped c_size c_from c_next c_token c_value c_fault c_number c_fives c_isLeft c_wentTimes c_goes c_isLeftLaid c_game c_rows c_columns c_isFound c_bestValue c_bestBelow c_bestShare c_share c_matrix c_system c_shares c_allShares) 6 [(0, .ref 0), (1, .int x1), (2, .int x2), (3, .int x3)] [.int v3]
  refine xV_iconst 7 rfl dX10_on_6 xk_i3 ?_
  refine xV_aload_n 8 rfl dX10_on_7 rfl 0 rfl ?_
  refine xV_get (v := .ref 1) 11 rfl dX10_on_8 f10_17 rfl rfl ?_
  refine xV_iconst 12 rfl dX10_on_11 xk_i0 ?_
  refine xV_iaload 13 rfl dX10_on_12 rfl xk_in0_56 xk_j0 ?_
  refine xV_iconst 14 rfl dX10_on_13 xk_i1 ?_
  refine xV_isub 15 rfl dX10_on_14 ?_
  refine xV_iload_n 16 rfl dX10_on_15 rfl 3 rfl ?_
  refine xV_isub 17 rfl dX10_on_16 ?_
  refine xV_imul 18 rfl dX10_on_17 ?_
  refine xV_ishr 19 rfl dX10_on_18 ?_
  refine xV_bipush 21 rfl dX10_on_19 xk_b7 ?_
  refine xV_iand 22 rfl dX10_on_21 ?_
  cases hf
  exact xV_iret hX dX10_on_22 rfl (Nat.zero_le _) (Nat.zero_le _)
theorem C10_on (l : Launch) {x1 : Int32} {x2 : Int32} {x3 : Int32} {c_told : (Nat → Int32)} {c_eights : (Nat → Int32)} {c_thrown : Int32} {c_read : (Nat → Int32)} {c_many : (Nat → Int32)} {c_gains : (Nat → Int32)} {c_notes : (Nat → Int32)} {c_seen : (Nat → Int32)} {c_turns : (Nat → Int32)} {c_drawn : (Nat → Int32)} {c_state : Int32} {c_tape : (Nat → Int32)} {c_taped : Int32} {c_size : Int32} {c_from : Int32} {c_next : Int32} {c_token : Int32} {c_value : Int32} {c_fault : Int32} {c_number : Int32} {c_fives : (Nat → Int32)} {c_isLeft : (Nat → Int32)} {c_wentTimes : Int32} {c_goes : (Nat → Int32)} {c_isLeftLaid : Int32} {c_game : (Nat → Int32)} {c_rows : Int32} {c_columns : Int32} {c_isFound : Int32} {c_bestValue : Int64} {c_bestBelow : Int64} {c_bestShare : (Nat → Int64)} {c_share : (Nat → Int64)} {c_matrix : (Nat → Int64)} {c_system : (Nat → Int64)} {c_shares : (Nat → Int32)} {c_allShares : Int32} {v : Int32} (hf : F10_on x1 x2 x3 c_told c_eights = some v) : xCt l yX10_on ((some .int)) j10_on [.ref 0, .int x1, .int x2, .int x3] (hM c_thrown c_told c_read c_many c_eights c_gains c_notes c_seen c_turns c_drawn c_state c_tape c_taped c_size c_from c_next c_token c_value c_fault c_number c_fives c_isLeft c_wentTimes c_goes c_isLeftLaid c_game c_rows c_columns c_isFound c_bestValue c_bestBelow c_bestShare c_share c_matrix c_system c_shares c_allShares) (some (.int v)) (hM c_thrown c_told c_read c_many c_eights c_gains c_notes c_seen c_turns c_drawn c_state c_tape c_taped c_size c_from c_next c_token c_value c_fault c_number c_fives c_isLeft c_wentTimes c_goes c_isLeftLaid c_game c_rows c_columns c_isFound c_bestValue c_bestBelow c_bestShare c_share c_matrix c_system c_shares c_allShares) := xCt_of (by decide) rfl (Nat.le_of_ble_eq_true rfl) (fun _ hX => T10_on hX hf)
theorem m10_on : xMd yX10_on RX10 ((some .int)) j10_on 3 := ⟨List.mem_of_getElem? (i := 160) (by decide +kernel), List.mem_of_getElem? (i := 5) (by decide +kernel), rfl, by decide +kernel⟩
theorem v10_on : xMv yX10_on RX10 := ⟨List.mem_of_getElem? (i := 158) (by decide +kernel), List.mem_of_getElem? (i := 159) (by decide +kernel)⟩
theorem xk_in7_56 : vp_in (7 : Int32) 56 := xin_ok (by decide)
theorem xk_j7 : (7 : Int32).toNatClampNeg = 7 := by decide
theorem xk_i2 : Int32.ofInt (2) = (2 : Int32) := by decide
theorem xk_im1 : Int32.ofInt (-1) = (-1 : Int32) := by decide
theorem k10_90 : Cond.methodLink RX10 90 yX10_on ∈ wsL_law0 := List.mem_of_getElem? (i := 157) (by decide +kernel)
theorem k10_94 : Cond.methodLink RX10 94 yX10_worth ∈ wsL_law0 := List.mem_of_getElem? (i := 165) (by decide +kernel)
theorem dX10_gainOf_0 : decode cX10_gainOf 0 = .ok (.iconst 0, 1) := by decide +kernel
theorem dX10_gainOf_1 : decode cX10_gainOf 1 = .ok (.istore_n 3, 1) := by decide +kernel
theorem dX10_gainOf_2 : decode cX10_gainOf 2 = .ok (.iconst 0, 1) := by decide +kernel
theorem dX10_gainOf_3 : decode cX10_gainOf 3 = .ok (.istore 4, 2) := by decide +kernel
theorem dX10_gainOf_5 : decode cX10_gainOf 5 = .ok (.iload 4, 2) := by decide +kernel
theorem dX10_gainOf_7 : decode cX10_gainOf 7 = .ok (.aload_n 0, 1) := by decide +kernel
theorem dX10_gainOf_8 : decode cX10_gainOf 8 = .ok (.getfield 17, 3) := by decide +kernel
theorem dX10_gainOf_11 : decode cX10_gainOf 11 = .ok (.iconst 0, 1) := by decide +kernel
theorem dX10_gainOf_12 : decode cX10_gainOf 12 = .ok (.iaload, 1) := by decide +kernel
theorem dX10_gainOf_13 : decode cX10_gainOf 13 = .ok (.if_icmp .ge 88, 3) := by decide +kernel
theorem dX10_gainOf_16 : decode cX10_gainOf 16 = .ok (.aload_n 0, 1) := by decide +kernel
theorem dX10_gainOf_17 : decode cX10_gainOf 17 = .ok (.iconst 0, 1) := by decide +kernel
theorem dX10_gainOf_18 : decode cX10_gainOf 18 = .ok (.iload_n 1, 1) := by decide +kernel
theorem dX10_gainOf_19 : decode cX10_gainOf 19 = .ok (.iload 4, 2) := by decide +kernel
theorem dX10_gainOf_21 : decode cX10_gainOf 21 = .ok (.invokevirtual 90, 3) := by decide +kernel
theorem dX10_gainOf_24 : decode cX10_gainOf 24 = .ok (.aload_n 0, 1) := by decide +kernel
theorem dX10_gainOf_25 : decode cX10_gainOf 25 = .ok (.iconst 1, 1) := by decide +kernel
theorem dX10_gainOf_26 : decode cX10_gainOf 26 = .ok (.iload_n 2, 1) := by decide +kernel
theorem dX10_gainOf_27 : decode cX10_gainOf 27 = .ok (.iload 4, 2) := by decide +kernel
theorem dX10_gainOf_29 : decode cX10_gainOf 29 = .ok (.invokevirtual 90, 3) := by decide +kernel
theorem dX10_gainOf_32 : decode cX10_gainOf 32 = .ok (.isub, 1) := by decide +kernel
theorem dX10_gainOf_33 : decode cX10_gainOf 33 = .ok (.istore 5, 2) := by decide +kernel
theorem dX10_gainOf_35 : decode cX10_gainOf 35 = .ok (.iload 5, 2) := by decide +kernel
theorem dX10_gainOf_37 : decode cX10_gainOf 37 = .ok (.ifCond .gt 19, 3) := by decide +kernel
theorem dX10_gainOf_40 : decode cX10_gainOf 40 = .ok (.iload 5, 2) := by decide +kernel
theorem dX10_gainOf_42 : decode cX10_gainOf 42 = .ok (.ifCond .ne 18, 3) := by decide +kernel
theorem dX10_gainOf_45 : decode cX10_gainOf 45 = .ok (.aload_n 0, 1) := by decide +kernel
theorem dX10_gainOf_46 : decode cX10_gainOf 46 = .ok (.getfield 17, 3) := by decide +kernel
theorem dX10_gainOf_49 : decode cX10_gainOf 49 = .ok (.bipush 7, 2) := by decide +kernel
theorem dX10_gainOf_51 : decode cX10_gainOf 51 = .ok (.iaload, 1) := by decide +kernel
theorem dX10_gainOf_52 : decode cX10_gainOf 52 = .ok (.iconst 1, 1) := by decide +kernel
theorem dX10_gainOf_53 : decode cX10_gainOf 53 = .ok (.if_icmp .ne 7, 3) := by decide +kernel
theorem dX10_gainOf_56 : decode cX10_gainOf 56 = .ok (.iconst 1, 1) := by decide +kernel
theorem dX10_gainOf_57 : decode cX10_gainOf 57 = .ok (.goto 24, 3) := by decide +kernel
theorem dX10_gainOf_60 : decode cX10_gainOf 60 = .ok (.iload 5, 2) := by decide +kernel
theorem dX10_gainOf_62 : decode cX10_gainOf 62 = .ok (.ifCond .lt 14, 3) := by decide +kernel
theorem dX10_gainOf_65 : decode cX10_gainOf 65 = .ok (.aload_n 0, 1) := by decide +kernel
theorem dX10_gainOf_66 : decode cX10_gainOf 66 = .ok (.getfield 17, 3) := by decide +kernel
theorem dX10_gainOf_69 : decode cX10_gainOf 69 = .ok (.bipush 7, 2) := by decide +kernel
theorem dX10_gainOf_71 : decode cX10_gainOf 71 = .ok (.iaload, 1) := by decide +kernel
theorem dX10_gainOf_72 : decode cX10_gainOf 72 = .ok (.iconst 2, 1) := by decide +kernel
theorem dX10_gainOf_73 : decode cX10_gainOf 73 = .ok (.if_icmp .ne 7, 3) := by decide +kernel
theorem dX10_gainOf_76 : decode cX10_gainOf 76 = .ok (.iconst (-1), 1) := by decide +kernel
theorem dX10_gainOf_77 : decode cX10_gainOf 77 = .ok (.goto 4, 3) := by decide +kernel
theorem dX10_gainOf_80 : decode cX10_gainOf 80 = .ok (.iconst 0, 1) := by decide +kernel
theorem dX10_gainOf_81 : decode cX10_gainOf 81 = .ok (.istore 6, 2) := by decide +kernel
theorem dX10_gainOf_83 : decode cX10_gainOf 83 = .ok (.iload_n 3, 1) := by decide +kernel
theorem dX10_gainOf_84 : decode cX10_gainOf 84 = .ok (.iload 6, 2) := by decide +kernel
theorem dX10_gainOf_86 : decode cX10_gainOf 86 = .ok (.aload_n 0, 1) := by decide +kernel
theorem dX10_gainOf_87 : decode cX10_gainOf 87 = .ok (.iload 4, 2) := by decide +kernel
theorem dX10_gainOf_89 : decode cX10_gainOf 89 = .ok (.invokevirtual 94, 3) := by decide +kernel
theorem dX10_gainOf_92 : decode cX10_gainOf 92 = .ok (.imul, 1) := by decide +kernel
theorem dX10_gainOf_93 : decode cX10_gainOf 93 = .ok (.iadd, 1) := by decide +kernel
theorem dX10_gainOf_94 : decode cX10_gainOf 94 = .ok (.istore_n 3, 1) := by decide +kernel
theorem dX10_gainOf_95 : decode cX10_gainOf 95 = .ok (.iinc 4 1, 3) := by decide +kernel
theorem dX10_gainOf_98 : decode cX10_gainOf 98 = .ok (.goto (-93), 3) := by decide +kernel
theorem dX10_gainOf_101 : decode cX10_gainOf 101 = .ok (.iload_n 3, 1) := by decide +kernel
theorem dX10_gainOf_102 : decode cX10_gainOf 102 = .ok (.ireturn, 1) := by decide +kernel
abbrev j10_gainOf : xJ := (cX10_gainOf, 7, RX10, 3, 0, 0)
def F10_gainOf_b81 (z : Nat) (x1 : Int32) (x2 : Int32) (x3 : Int32) (x4 : Int32) (s0 : Int32) (c_told : (Nat → Int32)) (c_eights : (Nat → Int32)) (k5 : Int32 → Int32 → Int32 → Int32 → (Nat → Int32) → (Nat → Int32) → Option (Int32)) : Option (Int32) :=
  (F10_worth x4 c_told).bind (fun v89 => k5 x1 x2 (x3 + (s0 * v89)) (x4 + (1 : Int32)) c_told c_eights)
theorem T10_gainOf_b81 {X : xX} {c_thrown : Int32} {c_read : (Nat → Int32)} {c_many : (Nat → Int32)} {c_gains : (Nat → Int32)} {c_notes : (Nat → Int32)} {c_seen : (Nat → Int32)} {c_turns : (Nat → Int32)} {c_drawn : (Nat → Int32)} {c_state : Int32} {c_tape : (Nat → Int32)} {c_taped : Int32} {c_size : Int32} {c_from : Int32} {c_next : Int32} {c_token : Int32} {c_value : Int32} {c_fault : Int32} {c_number : Int32} {c_fives : (Nat → Int32)} {c_isLeft : (Nat → Int32)} {c_wentTimes : Int32} {c_goes : (Nat → Int32)} {c_isLeftLaid : Int32} {c_game : (Nat → Int32)} {c_rows : Int32} {c_columns : Int32} {c_isFound : Int32} {c_bestValue : Int64} {c_bestBelow : Int64} {c_bestShare : (Nat → Int64)} {c_share : (Nat → Int64)} {c_matrix : (Nat → Int64)} {c_system : (Nat → Int64)} {c_shares : (Nat → Int32)} {c_allShares : Int32} {x1 : Int32} {x2 : Int32} {x3 : Int32} {x4 : Int32} {s0 : Int32} {c_told : (Nat → Int32)} {c_eights : (Nat → Int32)} {z : Nat} {v : Int32} {k5 : Int32 → Int32 → Int32 → Int32 → (Nat → Int32) → (Nat → Int32) → Option (Int32)} (hX : xIs (j10_gainOf) X ((some .int)) (some (.int v)) (hM c_thrown c_told c_read c_many c_eights c_gains c_notes c_seen c_turns c_drawn c_state c_tape c_taped c_size c_from c_next c_token c_value c_fault c_number c_fives c_isLeft c_wentTimes c_goes c_isLeftLaid c_game c_rows c_columns c_isFound c_bestValue c_bestBelow c_bestShare c_share c_matrix c_system c_shares c_allShares)) (hk5 : ∀ {x1 : Int32} {x2 : Int32} {x3 : Int32} {x4 : Int32}, k5 x1 x2 x3 x4 c_told c_eights = some v → xV (j10_gainOf) X 0 0 (hM c_thrown c_told c_read c_many c_eights c_gains c_notes c_seen c_turns c_drawn c_state c_tape c_taped c_size c_from c_next c_token c_value c_fault c_number c_fives c_isLeft c_wentTimes c_goes c_isLeftLaid c_game c_rows c_columns c_isFound c_bestValue c_bestBelow c_bestShare c_share c_matrix c_system c_shares c_allShares) 5 [(0, .ref 0), (1, .int x1), (2, .int x2), (3, .int x3), (4, .int x4)] []) (hf : F10_gainOf_b81 z x1 x2 x3 x4 s0 c_told c_eights k5 = some v) : xV (j10_gainOf) X 0 0 (hM c_thrown c_told c_read c_many c_eights c_gains c_notes c_seen c_turns c_drawn c_state c_tape c_taped c_size c_from c_next c_token c_value c_fault c_number c_fives c_isLeft c_wentTimes c_goes c_isLeftLaid c_game c_rows c_columns c_isFound c_bestValue c_bestBelow c_bestShare c_share c_matrix c_system c_shares c_allShares) 81 [(0, .ref 0), (1, .int x1), (2, .int x2), (3, .int x3), (4, .int x4)] [.int s0] := by
  unfold F10_gainOf_b81 at hf
  refine xV_istore (L' := [(6, .int s0), (0, .ref 0), (1, .int x1), (2, .int x2), (3, .int x3), (4, .int x4)]) 83 rfl dX10_gainOf_81 (by decide) rfl ?_
  refine xV_iload_n 84 rfl dX10_gainOf_83 rfl 4 rfl ?_
  refine xV_iload 86 rfl dX10_gainOf_84 0 rfl ?_
  refine xV_aload_n 87 rfl dX10_gainOf_86 rfl 1 rfl ?_
  refine xV_iload 89 rfl dX10_gainOf_87 5 rfl ?_
  obtain ⟨v89, hv89, hf⟩ := xb_s hf
  refine xV_same (rest := [.int s0, .int x3]) 92 rfl dX10_gainOf_89 rfl (C10_worth X.1.2.1 hv89) m10_worth v10_worth k10_94 rfl rfl rfl rfl rfl (Nat.le_of_ble_eq_true rfl) (Nat.le_of_ble_eq_true rfl) (Nat.le_of_ble_eq_true rfl) ⟨Nat.le_refl _, Nat.le_refl _⟩ ?_
  show xV j10_gainOf X 0 0 (hM c_thrown c_told c_read c_many c_eights c_gains c_notes c_seen c_turns c_drawn c_state c_tape c_taped c_size c_from c_next c_token c_value c_fault c_number c_fives c_isLeft c_wentTimes c_goes c_isLeftLaid c_game c_rows c_columns c_isFound c_bestValue c_bestBelow c_bestShare c_share c_matrix c_system c_shares c_allShares) 92 [(6, .int s0), (0, .ref 0), (1, .int x1), (2, .int x2), (3, .int x3), (4, .int x4)] [.int v89, .int s0, .int x3]
  refine xV_imul 93 rfl dX10_gainOf_92 ?_
  refine xV_iadd 94 rfl dX10_gainOf_93 ?_
  refine xV_istore_n (L' := [(3, .int (x3 + (s0 * v89))), (6, .int s0), (0, .ref 0), (1, .int x1), (2, .int x2), (4, .int x4)]) 95 rfl dX10_gainOf_94 rfl (by decide) rfl ?_
  refine xV_iinc (L' := [(4, .int (x4 + (1 : Int32))), (3, .int (x3 + (s0 * v89))), (6, .int s0), (0, .ref 0), (1, .int x1), (2, .int x2)]) 98 rfl dX10_gainOf_95 5 rfl (xk_inc xk_i1) (by decide) rfl ?_
  refine xV_goto (tgt := 5) dX10_gainOf_98 (by decide) ?_
  refine xV_sub [3, 4, 5, 1, 0] rfl ?_
  exact hk5 hf
def F10_gainOf_b60 (z : Nat) (x1 : Int32) (x2 : Int32) (x3 : Int32) (x4 : Int32) (x5 : Int32) (c_told : (Nat → Int32)) (c_eights : (Nat → Int32)) (k5 : Int32 → Int32 → Int32 → Int32 → (Nat → Int32) → (Nat → Int32) → Option (Int32)) : Option (Int32) :=
  if x5 < 0 then (F10_gainOf_b81 z x1 x2 x3 x4 (-1 : Int32) c_told c_eights k5) else (if (c_told 7) = (2 : Int32) then (F10_gainOf_b81 z x1 x2 x3 x4 (-1 : Int32) c_told c_eights k5) else (F10_gainOf_b81 z x1 x2 x3 x4 (0 : Int32) c_told c_eights k5))
theorem T10_gainOf_b60 {X : xX} {c_thrown : Int32} {c_read : (Nat → Int32)} {c_many : (Nat → Int32)} {c_gains : (Nat → Int32)} {c_notes : (Nat → Int32)} {c_seen : (Nat → Int32)} {c_turns : (Nat → Int32)} {c_drawn : (Nat → Int32)} {c_state : Int32} {c_tape : (Nat → Int32)} {c_taped : Int32} {c_size : Int32} {c_from : Int32} {c_next : Int32} {c_token : Int32} {c_value : Int32} {c_fault : Int32} {c_number : Int32} {c_fives : (Nat → Int32)} {c_isLeft : (Nat → Int32)} {c_wentTimes : Int32} {c_goes : (Nat → Int32)} {c_isLeftLaid : Int32} {c_game : (Nat → Int32)} {c_rows : Int32} {c_columns : Int32} {c_isFound : Int32} {c_bestValue : Int64} {c_bestBelow : Int64} {c_bestShare : (Nat → Int64)} {c_share : (Nat → Int64)} {c_matrix : (Nat → Int64)} {c_system : (Nat → Int64)} {c_shares : (Nat → Int32)} {c_allShares : Int32} {x1 : Int32} {x2 : Int32} {x3 : Int32} {x4 : Int32} {x5 : Int32} {c_told : (Nat → Int32)} {c_eights : (Nat → Int32)} {z : Nat} {v : Int32} {k5 : Int32 → Int32 → Int32 → Int32 → (Nat → Int32) → (Nat → Int32) → Option (Int32)} (hX : xIs (j10_gainOf) X ((some .int)) (some (.int v)) (hM c_thrown c_told c_read c_many c_eights c_gains c_notes c_seen c_turns c_drawn c_state c_tape c_taped c_size c_from c_next c_token c_value c_fault c_number c_fives c_isLeft c_wentTimes c_goes c_isLeftLaid c_game c_rows c_columns c_isFound c_bestValue c_bestBelow c_bestShare c_share c_matrix c_system c_shares c_allShares)) (hk5 : ∀ {x1 : Int32} {x2 : Int32} {x3 : Int32} {x4 : Int32}, k5 x1 x2 x3 x4 c_told c_eights = some v → xV (j10_gainOf) X 0 0 (hM c_thrown c_told c_read c_many c_eights c_gains c_notes c_seen c_turns c_drawn c_state c_tape c_taped c_size c_from c_next c_token c_value c_fault c_number c_fives c_isLeft c_wentTimes c_goes c_isLeftLaid c_game c_rows c_columns c_isFound c_bestValue c_bestBelow c_bestShare c_share c_matrix c_system c_shares c_allShares) 5 [(0, .ref 0), (1, .int x1), (2, .int x2), (3, .int x3), (4, .int x4)] []) (hf : F10_gainOf_b60 z x1 x2 x3 x4 x5 c_told c_eights k5 = some v) : xV (j10_gainOf) X 0 0 (hM c_thrown c_told c_read c_many c_eights c_gains c_notes c_seen c_turns c_drawn c_state c_tape c_taped c_size c_from c_next c_token c_value c_fault c_number c_fives c_isLeft c_wentTimes c_goes c_isLeftLaid c_game c_rows c_columns c_isFound c_bestValue c_bestBelow c_bestShare c_share c_matrix c_system c_shares c_allShares) 60 [(0, .ref 0), (1, .int x1), (2, .int x2), (3, .int x3), (4, .int x4), (5, .int x5)] [] := by
  unfold F10_gainOf_b60 at hf
  refine xV_iload 62 rfl dX10_gainOf_60 5 rfl ?_
  refine xV_if_lt (tgt := 76) 65 rfl dX10_gainOf_62 (by decide) (fun h62 => ?_) (fun h62 => ?_)
  · have hf := xif_t hf h62
    refine xV_iconst 77 rfl dX10_gainOf_76 xk_im1 ?_
    refine xV_goto (tgt := 81) dX10_gainOf_77 (by decide) ?_
    refine xV_sub [0, 1, 2, 3, 4] rfl ?_
    exact T10_gainOf_b81 hX hk5 hf
  · have hf := xif_f hf h62
    refine xV_aload_n 66 rfl dX10_gainOf_65 rfl 0 rfl ?_
    refine xV_get (v := .ref 1) 69 rfl dX10_gainOf_66 f10_17 rfl rfl ?_
    refine xV_bipush 71 rfl dX10_gainOf_69 xk_b7 ?_
    refine xV_iaload 72 rfl dX10_gainOf_71 rfl xk_in7_56 xk_j7 ?_
    refine xV_iconst 73 rfl dX10_gainOf_72 xk_i2 ?_
    refine xV_icmp_ne (tgt := 80) 76 rfl dX10_gainOf_73 (by decide) (fun h73 => ?_) (fun h73 => ?_)
    · have hf := xif_f hf h73
      refine xV_iconst 81 rfl dX10_gainOf_80 xk_i0 ?_
      refine xV_sub [0, 1, 2, 3, 4] rfl ?_
      exact T10_gainOf_b81 hX hk5 hf
    · have hf := xif_t hf h73
      refine xV_iconst 77 rfl dX10_gainOf_76 xk_im1 ?_
      refine xV_goto (tgt := 81) dX10_gainOf_77 (by decide) ?_
      refine xV_sub [0, 1, 2, 3, 4] rfl ?_
      exact T10_gainOf_b81 hX hk5 hf
def F10_gainOf_b5 (z : Nat) (w : Nat) (x1 : Int32) (x2 : Int32) (x3 : Int32) (x4 : Int32) (c_told : (Nat → Int32)) (c_eights : (Nat → Int32)) : Option (Int32) := match w with
  | 0 => none
  | w + 1 => if (c_told 0) ≤ x4 then (some (x3)) else ((F10_on (0 : Int32) x1 x4 c_told c_eights).bind (fun v21 => (F10_on (1 : Int32) x2 x4 c_told c_eights).bind (fun v29 => if 0 < (v21 - v29) then (F10_gainOf_b81 z x1 x2 x3 x4 (1 : Int32) c_told c_eights (fun q0 q1 q2 q3 q4 q5 => F10_gainOf_b5 z w q0 q1 q2 q3 q4 q5)) else (if (v21 - v29) = 0 then (if (c_told 7) = (1 : Int32) then (F10_gainOf_b81 z x1 x2 x3 x4 (1 : Int32) c_told c_eights (fun q0 q1 q2 q3 q4 q5 => F10_gainOf_b5 z w q0 q1 q2 q3 q4 q5)) else (F10_gainOf_b60 z x1 x2 x3 x4 (v21 - v29) c_told c_eights (fun q0 q1 q2 q3 q4 q5 => F10_gainOf_b5 z w q0 q1 q2 q3 q4 q5))) else (F10_gainOf_b60 z x1 x2 x3 x4 (v21 - v29) c_told c_eights (fun q0 q1 q2 q3 q4 q5 => F10_gainOf_b5 z w q0 q1 q2 q3 q4 q5))))))
theorem T10_gainOf_b5 {X : xX} {c_thrown : Int32} {c_told : (Nat → Int32)} {c_read : (Nat → Int32)} {c_many : (Nat → Int32)} {c_eights : (Nat → Int32)} {c_gains : (Nat → Int32)} {c_notes : (Nat → Int32)} {c_seen : (Nat → Int32)} {c_turns : (Nat → Int32)} {c_drawn : (Nat → Int32)} {c_state : Int32} {c_tape : (Nat → Int32)} {c_taped : Int32} {c_size : Int32} {c_from : Int32} {c_next : Int32} {c_token : Int32} {c_value : Int32} {c_fault : Int32} {c_number : Int32} {c_fives : (Nat → Int32)} {c_isLeft : (Nat → Int32)} {c_wentTimes : Int32} {c_goes : (Nat → Int32)} {c_isLeftLaid : Int32} {c_game : (Nat → Int32)} {c_rows : Int32} {c_columns : Int32} {c_isFound : Int32} {c_bestValue : Int64} {c_bestBelow : Int64} {c_bestShare : (Nat → Int64)} {c_share : (Nat → Int64)} {c_matrix : (Nat → Int64)} {c_system : (Nat → Int64)} {c_shares : (Nat → Int32)} {c_allShares : Int32} {z : Nat} {v : Int32} (hX : xIs (j10_gainOf) X ((some .int)) (some (.int v)) (hM c_thrown c_told c_read c_many c_eights c_gains c_notes c_seen c_turns c_drawn c_state c_tape c_taped c_size c_from c_next c_token c_value c_fault c_number c_fives c_isLeft c_wentTimes c_goes c_isLeftLaid c_game c_rows c_columns c_isFound c_bestValue c_bestBelow c_bestShare c_share c_matrix c_system c_shares c_allShares)) : ∀ (w : Nat) {x1 : Int32} {x2 : Int32} {x3 : Int32} {x4 : Int32}, F10_gainOf_b5 z w x1 x2 x3 x4 c_told c_eights = some v → xV (j10_gainOf) X 0 0 (hM c_thrown c_told c_read c_many c_eights c_gains c_notes c_seen c_turns c_drawn c_state c_tape c_taped c_size c_from c_next c_token c_value c_fault c_number c_fives c_isLeft c_wentTimes c_goes c_isLeftLaid c_game c_rows c_columns c_isFound c_bestValue c_bestBelow c_bestShare c_share c_matrix c_system c_shares c_allShares) 5 [(0, .ref 0), (1, .int x1), (2, .int x2), (3, .int x3), (4, .int x4)] [] := by
  intro w
  induction w with
  | zero => intro x1 x2 x3 x4 hf; cases hf
  | succ w ih =>
    intro x1 x2 x3 x4 hf
    unfold F10_gainOf_b5 at hf
    refine xV_iload 7 rfl dX10_gainOf_5 4 rfl ?_
    refine xV_aload_n 8 rfl dX10_gainOf_7 rfl 0 rfl ?_
    refine xV_get (v := .ref 1) 11 rfl dX10_gainOf_8 f10_17 rfl rfl ?_
    refine xV_iconst 12 rfl dX10_gainOf_11 xk_i0 ?_
    refine xV_iaload 13 rfl dX10_gainOf_12 rfl xk_in0_56 xk_j0 ?_
    refine xV_icmp_ge (tgt := 101) 16 rfl dX10_gainOf_13 (by decide) (fun h13 => ?_) (fun h13 => ?_)
    · have hf := xif_t hf h13
      refine xV_iload_n 102 rfl dX10_gainOf_101 rfl 3 rfl ?_
      cases hf
      exact xV_iret hX dX10_gainOf_102 rfl (Nat.zero_le _) (Nat.zero_le _)
    · have hf := xif_f hf h13
      refine xV_aload_n 17 rfl dX10_gainOf_16 rfl 0 rfl ?_
      refine xV_iconst 18 rfl dX10_gainOf_17 xk_i0 ?_
      refine xV_iload_n 19 rfl dX10_gainOf_18 rfl 1 rfl ?_
      refine xV_iload 21 rfl dX10_gainOf_19 4 rfl ?_
      obtain ⟨v21, hv21, hf⟩ := xb_s hf
      refine xV_same (rest := []) 24 rfl dX10_gainOf_21 rfl (C10_on X.1.2.1 hv21) m10_on v10_on k10_90 rfl rfl rfl rfl rfl (Nat.le_of_ble_eq_true rfl) (Nat.le_of_ble_eq_true rfl) (Nat.le_of_ble_eq_true rfl) ⟨Nat.le_refl _, Nat.le_refl _⟩ ?_
      show xV j10_gainOf X 0 0 (hM c_thrown c_told c_read c_many c_eights c_gains c_notes c_seen c_turns c_drawn c_state c_tape c_taped c_size c_from c_next c_token c_value c_fault c_number c_fives c_isLeft c_wentTimes c_goes c_isLeftLaid c_game c_rows c_columns c_isFound c_bestValue c_bestBelow c_bestShare c_share c_matrix c_system c_shares c_allShares) 24 [(0, .ref 0), (1, .int x1), (2, .int x2), (3, .int x3), (4, .int x4)] [.int v21]
      refine xV_aload_n 25 rfl dX10_gainOf_24 rfl 0 rfl ?_
      refine xV_iconst 26 rfl dX10_gainOf_25 xk_i1 ?_
      refine xV_iload_n 27 rfl dX10_gainOf_26 rfl 2 rfl ?_
      refine xV_iload 29 rfl dX10_gainOf_27 4 rfl ?_
      obtain ⟨v29, hv29, hf⟩ := xb_s hf
      refine xV_same (rest := [.int v21]) 32 rfl dX10_gainOf_29 rfl (C10_on X.1.2.1 hv29) m10_on v10_on k10_90 rfl rfl rfl rfl rfl (Nat.le_of_ble_eq_true rfl) (Nat.le_of_ble_eq_true rfl) (Nat.le_of_ble_eq_true rfl) ⟨Nat.le_refl _, Nat.le_refl _⟩ ?_
      show xV j10_gainOf X 0 0 (hM c_thrown c_told c_read c_many c_eights c_gains c_notes c_seen c_turns c_drawn c_state c_tape c_taped c_size c_from c_next c_token c_value c_fault c_number c_fives c_isLeft c_wentTimes c_goes c_isLeftLaid c_game c_rows c_columns c_isFound c_bestValue c_bestBelow c_bestShare c_share c_matrix c_system c_shares c_allShares) 32 [(0, .ref 0), (1, .int x1), (2, .int x2), (3, .int x3), (4, .int x4)] [.int v29, .int v21]
      refine xV_isub 33 rfl dX10_gainOf_32 ?_
      refine xV_istore (L' := [(5, .int (v21 - v29)), (0, .ref 0), (1, .int x1), (2, .int x2), (3, .int x3), (4, .int x4)]) 35 rfl dX10_gainOf_33 (by decide) rfl ?_
      refine xV_iload 37 rfl dX10_gainOf_35 0 rfl ?_
      refine xV_if_gt (tgt := 56) 40 rfl dX10_gainOf_37 (by decide) (fun h37 => ?_) (fun h37 => ?_)
      · have hf := xif_t hf h37
        refine xV_iconst 57 rfl dX10_gainOf_56 xk_i1 ?_
        refine xV_goto (tgt := 81) dX10_gainOf_57 (by decide) ?_
        refine xV_sub [1, 2, 3, 4, 5] rfl ?_
        exact T10_gainOf_b81 hX (fun {_ _ _ _} hq => ih hq) hf
      · have hf := xif_f hf h37
        refine xV_iload 42 rfl dX10_gainOf_40 0 rfl ?_
        refine xV_if_ne (tgt := 60) 45 rfl dX10_gainOf_42 (by decide) (fun h42 => ?_) (fun h42 => ?_)
        · have hf := xif_f hf h42
          refine xV_sub [1, 2, 3, 4, 5, 0] rfl ?_
          exact T10_gainOf_b60 hX (fun {_ _ _ _} hq => ih hq) hf
        · have hf := xif_t hf h42
          refine xV_aload_n 46 rfl dX10_gainOf_45 rfl 1 rfl ?_
          refine xV_get (v := .ref 1) 49 rfl dX10_gainOf_46 f10_17 rfl rfl ?_
          refine xV_bipush 51 rfl dX10_gainOf_49 xk_b7 ?_
          refine xV_iaload 52 rfl dX10_gainOf_51 rfl xk_in7_56 xk_j7 ?_
          refine xV_iconst 53 rfl dX10_gainOf_52 xk_i1 ?_
          refine xV_icmp_ne (tgt := 60) 56 rfl dX10_gainOf_53 (by decide) (fun h53 => ?_) (fun h53 => ?_)
          · have hf := xif_f hf h53
            refine xV_sub [1, 2, 3, 4, 5, 0] rfl ?_
            exact T10_gainOf_b60 hX (fun {_ _ _ _} hq => ih hq) hf
          · have hf := xif_t hf h53
            refine xV_iconst 57 rfl dX10_gainOf_56 xk_i1 ?_
            refine xV_goto (tgt := 81) dX10_gainOf_57 (by decide) ?_
            refine xV_sub [1, 2, 3, 4, 5] rfl ?_
            exact T10_gainOf_b81 hX (fun {_ _ _ _} hq => ih hq) hf
def F10_gainOf (z : Nat) (x1 : Int32) (x2 : Int32) (c_told : (Nat → Int32)) (c_eights : (Nat → Int32)) : Option (Int32) :=
  F10_gainOf_b5 z z x1 x2 (0 : Int32) (0 : Int32) c_told c_eights
theorem T10_gainOf {X : xX} {z : Nat} {x1 : Int32} {x2 : Int32} {c_told : (Nat → Int32)} {c_eights : (Nat → Int32)} {c_thrown : Int32} {c_read : (Nat → Int32)} {c_many : (Nat → Int32)} {c_gains : (Nat → Int32)} {c_notes : (Nat → Int32)} {c_seen : (Nat → Int32)} {c_turns : (Nat → Int32)} {c_drawn : (Nat → Int32)} {c_state : Int32} {c_tape : (Nat → Int32)} {c_taped : Int32} {c_size : Int32} {c_from : Int32} {c_next : Int32} {c_token : Int32} {c_value : Int32} {c_fault : Int32} {c_number : Int32} {c_fives : (Nat → Int32)} {c_isLeft : (Nat → Int32)} {c_wentTimes : Int32} {c_goes : (Nat → Int32)} {c_isLeftLaid : Int32} {c_game : (Nat → Int32)} {c_rows : Int32} {c_columns : Int32} {c_isFound : Int32} {c_bestValue : Int64} {c_bestBelow : Int64} {c_bestShare : (Nat → Int64)} {c_share : (Nat → Int64)} {c_matrix : (Nat → Int64)} {c_system : (Nat → Int64)} {c_shares : (Nat → Int32)} {c_allShares : Int32} {v : Int32} (hX : xIs (j10_gainOf) X ((some .int)) (some (.int v)) (hM c_thrown c_told c_read c_many c_eights c_gains c_notes c_seen c_turns c_drawn c_state c_tape c_taped c_size c_from c_next c_token c_value c_fault c_number c_fives c_isLeft c_wentTimes c_goes c_isLeftLaid c_game c_rows c_columns c_isFound c_bestValue c_bestBelow c_bestShare c_share c_matrix c_system c_shares c_allShares)) (hf : F10_gainOf z x1 x2 c_told c_eights = some v) : xV (j10_gainOf) X 0 0 (hM c_thrown c_told c_read c_many c_eights c_gains c_notes c_seen c_turns c_drawn c_state c_tape c_taped c_size c_from c_next c_token c_value c_fault c_number c_fives c_isLeft c_wentTimes c_goes c_isLeftLaid c_game c_rows c_columns c_isFound c_bestValue c_bestBelow c_bestShare c_share c_matrix c_system c_shares c_allShares) 0 [(0, .ref 0), (1, .int x1), (2, .int x2)] [] := by
  unfold F10_gainOf at hf
  refine xV_iconst 1 rfl dX10_gainOf_0 xk_i0 ?_
  refine xV_istore_n (L' := [(3, .int (0 : Int32)), (0, .ref 0), (1, .int x1), (2, .int x2)]) 2 rfl dX10_gainOf_1 rfl (by decide) rfl ?_
  refine xV_iconst 3 rfl dX10_gainOf_2 xk_i0 ?_
  refine xV_istore (L' := [(4, .int (0 : Int32)), (3, .int (0 : Int32)), (0, .ref 0), (1, .int x1), (2, .int x2)]) 5 rfl dX10_gainOf_3 (by decide) rfl ?_
  refine xV_sub [2, 3, 4, 1, 0] rfl ?_
  exact T10_gainOf_b5 hX _ hf
theorem C10_gainOf (l : Launch) {z : Nat} {x1 : Int32} {x2 : Int32} {c_told : (Nat → Int32)} {c_eights : (Nat → Int32)} {c_thrown : Int32} {c_read : (Nat → Int32)} {c_many : (Nat → Int32)} {c_gains : (Nat → Int32)} {c_notes : (Nat → Int32)} {c_seen : (Nat → Int32)} {c_turns : (Nat → Int32)} {c_drawn : (Nat → Int32)} {c_state : Int32} {c_tape : (Nat → Int32)} {c_taped : Int32} {c_size : Int32} {c_from : Int32} {c_next : Int32} {c_token : Int32} {c_value : Int32} {c_fault : Int32} {c_number : Int32} {c_fives : (Nat → Int32)} {c_isLeft : (Nat → Int32)} {c_wentTimes : Int32} {c_goes : (Nat → Int32)} {c_isLeftLaid : Int32} {c_game : (Nat → Int32)} {c_rows : Int32} {c_columns : Int32} {c_isFound : Int32} {c_bestValue : Int64} {c_bestBelow : Int64} {c_bestShare : (Nat → Int64)} {c_share : (Nat → Int64)} {c_matrix : (Nat → Int64)} {c_system : (Nat → Int64)} {c_shares : (Nat → Int32)} {c_allShares : Int32} {v : Int32} (hf : F10_gainOf z x1 x2 c_told c_eights = some v) : xCt l yX10_gainOf ((some .int)) j10_gainOf [.ref 0, .int x1, .int x2] (hM c_thrown c_told c_read c_many c_eights c_gains c_notes c_seen c_turns c_drawn c_state c_tape c_taped c_size c_from c_next c_token c_value c_fault c_number c_fives c_isLeft c_wentTimes c_goes c_isLeftLaid c_game c_rows c_columns c_isFound c_bestValue c_bestBelow c_bestShare c_share c_matrix c_system c_shares c_allShares) (some (.int v)) (hM c_thrown c_told c_read c_many c_eights c_gains c_notes c_seen c_turns c_drawn c_state c_tape c_taped c_size c_from c_next c_token c_value c_fault c_number c_fives c_isLeft c_wentTimes c_goes c_isLeftLaid c_game c_rows c_columns c_isFound c_bestValue c_bestBelow c_bestShare c_share c_matrix c_system c_shares c_allShares) := xCt_of (by decide) rfl (Nat.le_of_ble_eq_true rfl) (fun _ hX => T10_gainOf hX hf)
theorem m10_gainOf : xMd yX10_gainOf RX10 ((some .int)) j10_gainOf 2 := ⟨List.mem_of_getElem? (i := 156) (by decide +kernel), List.mem_of_getElem? (i := 5) (by decide +kernel), rfl, by decide +kernel⟩
theorem v10_gainOf : xMv yX10_gainOf RX10 := ⟨List.mem_of_getElem? (i := 154) (by decide +kernel), List.mem_of_getElem? (i := 155) (by decide +kernel)⟩
