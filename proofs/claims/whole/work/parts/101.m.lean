theorem f10_147 : xFl RX10 147 10 18 := ⟨_, rfl, by decide, List.mem_of_getElem? (i := 411) (by decide +kernel)⟩
theorem nf10_18 : ∀ q : vw_C, vwCl[10]? = some q → (q.2.1 18).2.2.2 = false := fun q e => by cases e; rfl
theorem dX10_bad_0 : decode cX10_bad 0 = .ok (.aload_n 0, 1) := by decide +kernel
theorem dX10_bad_1 : decode cX10_bad 1 = .ok (.aload_n 0, 1) := by decide +kernel
theorem dX10_bad_2 : decode cX10_bad 2 = .ok (.getfield 147, 3) := by decide +kernel
theorem dX10_bad_5 : decode cX10_bad 5 = .ok (.ifCond .ne 15, 3) := by decide +kernel
theorem dX10_bad_8 : decode cX10_bad 8 = .ok (.bipush 8, 2) := by decide +kernel
theorem dX10_bad_10 : decode cX10_bad 10 = .ok (.aload_n 0, 1) := by decide +kernel
theorem dX10_bad_11 : decode cX10_bad 11 = .ok (.getfield 138, 3) := by decide +kernel
theorem dX10_bad_14 : decode cX10_bad 14 = .ok (.imul, 1) := by decide +kernel
theorem dX10_bad_15 : decode cX10_bad 15 = .ok (.iload_n 1, 1) := by decide +kernel
theorem dX10_bad_16 : decode cX10_bad 16 = .ok (.iadd, 1) := by decide +kernel
theorem dX10_bad_17 : decode cX10_bad 17 = .ok (.goto 7, 3) := by decide +kernel
theorem dX10_bad_20 : decode cX10_bad 20 = .ok (.aload_n 0, 1) := by decide +kernel
theorem dX10_bad_21 : decode cX10_bad 21 = .ok (.getfield 147, 3) := by decide +kernel
theorem dX10_bad_24 : decode cX10_bad 24 = .ok (.putfield 147, 3) := by decide +kernel
theorem dX10_bad_27 : decode cX10_bad 27 = .ok (.iconst 0, 1) := by decide +kernel
theorem dX10_bad_28 : decode cX10_bad 28 = .ok (.ireturn, 1) := by decide +kernel
abbrev j10_bad : xJ := (cX10_bad, 2, RX10, 1, 0, 0)
def F10_bad_b24  (s1 : Int32) (c_from : Int32) (c_fault : Int32) : Option (Int32 × Int32) :=
  some ((0 : Int32), s1)
theorem T10_bad_b24 {X : xX} {c_thrown : Int32} {c_told : (Nat → Int32)} {c_read : (Nat → Int32)} {c_many : (Nat → Int32)} {c_eights : (Nat → Int32)} {c_gains : (Nat → Int32)} {c_notes : (Nat → Int32)} {c_seen : (Nat → Int32)} {c_turns : (Nat → Int32)} {c_drawn : (Nat → Int32)} {c_state : Int32} {c_tape : (Nat → Int32)} {c_taped : Int32} {c_size : Int32} {c_next : Int32} {c_token : Int32} {c_value : Int32} {c_number : Int32} {c_fives : (Nat → Int32)} {c_isLeft : (Nat → Int32)} {c_wentTimes : Int32} {c_goes : (Nat → Int32)} {c_isLeftLaid : Int32} {c_game : (Nat → Int32)} {c_rows : Int32} {c_columns : Int32} {c_isFound : Int32} {c_bestValue : Int64} {c_bestBelow : Int64} {c_bestShare : (Nat → Int64)} {c_share : (Nat → Int64)} {c_matrix : (Nat → Int64)} {c_system : (Nat → Int64)} {c_shares : (Nat → Int32)} {c_allShares : Int32} {s1 : Int32} {c_from : Int32} {c_fault : Int32} {v : Int32 × Int32} (hX : xIs (j10_bad) X ((some .boolean)) (some (.int v.1)) (hM c_thrown c_told c_read c_many c_eights c_gains c_notes c_seen c_turns c_drawn c_state c_tape c_taped c_size c_from c_next c_token c_value v.2 c_number c_fives c_isLeft c_wentTimes c_goes c_isLeftLaid c_game c_rows c_columns c_isFound c_bestValue c_bestBelow c_bestShare c_share c_matrix c_system c_shares c_allShares)) (hf : F10_bad_b24 s1 c_from c_fault = some v) : xV (j10_bad) X 0 0 (hM c_thrown c_told c_read c_many c_eights c_gains c_notes c_seen c_turns c_drawn c_state c_tape c_taped c_size c_from c_next c_token c_value c_fault c_number c_fives c_isLeft c_wentTimes c_goes c_isLeftLaid c_game c_rows c_columns c_isFound c_bestValue c_bestBelow c_bestShare c_share c_matrix c_system c_shares c_allShares) 24 [] [.int s1, .ref 0] := by
  unfold F10_bad_b24 at hf
  refine xV_put (h' := (hM c_thrown c_told c_read c_many c_eights c_gains c_notes c_seen c_turns c_drawn c_state c_tape c_taped c_size c_from c_next c_token c_value s1 c_number c_fives c_isLeft c_wentTimes c_goes c_isLeftLaid c_game c_rows c_columns c_isFound c_bestValue c_bestBelow c_bestShare c_share c_matrix c_system c_shares c_allShares)) 27 rfl dX10_bad_24 f10_147 rfl nf10_18 (fun _ => rfl) (fun _ => rfl) (Nat.le_of_ble_eq_true rfl) rfl ?_
  refine xV_iconst 28 rfl dX10_bad_27 xk_i0 ?_
  obtain rfl := Option.some.inj hf
  exact xV_iret hX dX10_bad_28 (xbo_ok rfl) (Nat.zero_le _) (Nat.zero_le _)
def F10_bad (x1 : Int32) (c_from : Int32) (c_fault : Int32) : Option (Int32 × Int32) :=
  if c_fault = 0 then (F10_bad_b24 (((8 : Int32) * c_from) + x1) c_from c_fault) else (F10_bad_b24 c_fault c_from c_fault)
theorem T10_bad {X : xX} {x1 : Int32} {c_from : Int32} {c_fault : Int32} {c_thrown : Int32} {c_told : (Nat → Int32)} {c_read : (Nat → Int32)} {c_many : (Nat → Int32)} {c_eights : (Nat → Int32)} {c_gains : (Nat → Int32)} {c_notes : (Nat → Int32)} {c_seen : (Nat → Int32)} {c_turns : (Nat → Int32)} {c_drawn : (Nat → Int32)} {c_state : Int32} {c_tape : (Nat → Int32)} {c_taped : Int32} {c_size : Int32} {c_next : Int32} {c_token : Int32} {c_value : Int32} {c_number : Int32} {c_fives : (Nat → Int32)} {c_isLeft : (Nat → Int32)} {c_wentTimes : Int32} {c_goes : (Nat → Int32)} {c_isLeftLaid : Int32} {c_game : (Nat → Int32)} {c_rows : Int32} {c_columns : Int32} {c_isFound : Int32} {c_bestValue : Int64} {c_bestBelow : Int64} {c_bestShare : (Nat → Int64)} {c_share : (Nat → Int64)} {c_matrix : (Nat → Int64)} {c_system : (Nat → Int64)} {c_shares : (Nat → Int32)} {c_allShares : Int32} {v : Int32 × Int32} (hX : xIs (j10_bad) X ((some .boolean)) (some (.int v.1)) (hM c_thrown c_told c_read c_many c_eights c_gains c_notes c_seen c_turns c_drawn c_state c_tape c_taped c_size c_from c_next c_token c_value v.2 c_number c_fives c_isLeft c_wentTimes c_goes c_isLeftLaid c_game c_rows c_columns c_isFound c_bestValue c_bestBelow c_bestShare c_share c_matrix c_system c_shares c_allShares)) (hf : F10_bad x1 c_from c_fault = some v) : xV (j10_bad) X 0 0 (hM c_thrown c_told c_read c_many c_eights c_gains c_notes c_seen c_turns c_drawn c_state c_tape c_taped c_size c_from c_next c_token c_value c_fault c_number c_fives c_isLeft c_wentTimes c_goes c_isLeftLaid c_game c_rows c_columns c_isFound c_bestValue c_bestBelow c_bestShare c_share c_matrix c_system c_shares c_allShares) 0 [(0, .ref 0), (1, .int x1)] [] := by
  unfold F10_bad at hf
  refine xV_aload_n 1 rfl dX10_bad_0 rfl 0 rfl ?_
  refine xV_aload_n 2 rfl dX10_bad_1 rfl 0 rfl ?_
  refine xV_get (v := .int c_fault) 5 rfl dX10_bad_2 f10_147 rfl rfl ?_
  refine xV_if_ne (tgt := 20) 8 rfl dX10_bad_5 (by decide) (fun h5 => ?_) (fun h5 => ?_)
  · have hf := xif_f hf h5
    refine xV_aload_n 21 rfl dX10_bad_20 rfl 0 rfl ?_
    refine xV_get (v := .int c_fault) 24 rfl dX10_bad_21 f10_147 rfl rfl ?_
    refine xV_sub [] rfl ?_
    exact T10_bad_b24 hX hf
  · have hf := xif_t hf h5
    refine xV_bipush 10 rfl dX10_bad_8 xk_b8 ?_
    refine xV_aload_n 11 rfl dX10_bad_10 rfl 0 rfl ?_
    refine xV_get (v := .int c_from) 14 rfl dX10_bad_11 f10_138 rfl rfl ?_
    refine xV_imul 15 rfl dX10_bad_14 ?_
    refine xV_iload_n 16 rfl dX10_bad_15 rfl 1 rfl ?_
    refine xV_iadd 17 rfl dX10_bad_16 ?_
    refine xV_goto (tgt := 24) dX10_bad_17 (by decide) ?_
    refine xV_sub [] rfl ?_
    exact T10_bad_b24 hX hf
theorem C10_bad (l : Launch) {x1 : Int32} {c_from : Int32} {c_fault : Int32} {c_thrown : Int32} {c_told : (Nat → Int32)} {c_read : (Nat → Int32)} {c_many : (Nat → Int32)} {c_eights : (Nat → Int32)} {c_gains : (Nat → Int32)} {c_notes : (Nat → Int32)} {c_seen : (Nat → Int32)} {c_turns : (Nat → Int32)} {c_drawn : (Nat → Int32)} {c_state : Int32} {c_tape : (Nat → Int32)} {c_taped : Int32} {c_size : Int32} {c_next : Int32} {c_token : Int32} {c_value : Int32} {c_number : Int32} {c_fives : (Nat → Int32)} {c_isLeft : (Nat → Int32)} {c_wentTimes : Int32} {c_goes : (Nat → Int32)} {c_isLeftLaid : Int32} {c_game : (Nat → Int32)} {c_rows : Int32} {c_columns : Int32} {c_isFound : Int32} {c_bestValue : Int64} {c_bestBelow : Int64} {c_bestShare : (Nat → Int64)} {c_share : (Nat → Int64)} {c_matrix : (Nat → Int64)} {c_system : (Nat → Int64)} {c_shares : (Nat → Int32)} {c_allShares : Int32} {v : Int32 × Int32} (hf : F10_bad x1 c_from c_fault = some v) : xCt l yX10_bad ((some .boolean)) j10_bad [.ref 0, .int x1] (hM c_thrown c_told c_read c_many c_eights c_gains c_notes c_seen c_turns c_drawn c_state c_tape c_taped c_size c_from c_next c_token c_value c_fault c_number c_fives c_isLeft c_wentTimes c_goes c_isLeftLaid c_game c_rows c_columns c_isFound c_bestValue c_bestBelow c_bestShare c_share c_matrix c_system c_shares c_allShares) (some (.int v.1)) (hM c_thrown c_told c_read c_many c_eights c_gains c_notes c_seen c_turns c_drawn c_state c_tape c_taped c_size c_from c_next c_token c_value v.2 c_number c_fives c_isLeft c_wentTimes c_goes c_isLeftLaid c_game c_rows c_columns c_isFound c_bestValue c_bestBelow c_bestShare c_share c_matrix c_system c_shares c_allShares) := xCt_of (by decide) rfl (Nat.le_of_ble_eq_true rfl) (fun _ hX => T10_bad hX hf)
theorem m10_bad : xMd yX10_bad RX10 ((some .boolean)) j10_bad 1 := ⟨List.mem_of_getElem? (i := 449) (by decide +kernel), List.mem_of_getElem? (i := 5) (by decide +kernel), rfl, by decide +kernel⟩
theorem v10_bad : xMv yX10_bad RX10 := ⟨List.mem_of_getElem? (i := 447) (by decide +kernel), List.mem_of_getElem? (i := 448) (by decide +kernel)⟩
