theorem k10_150 : Cond.methodLink RX10 150 yX10_bad ∈ wsL_law0 := List.mem_of_getElem? (i := 446) (by decide +kernel)
theorem f10_153 : xFl RX10 153 10 19 := ⟨_, rfl, by decide, List.mem_of_getElem? (i := 438) (by decide +kernel)⟩
theorem nf10_19 : ∀ q : vw_C, vwCl[10]? = some q → (q.2.1 19).2.2.2 = false := fun q e => by cases e; rfl
theorem dX10_isNumber_0 : decode cX10_isNumber 0 = .ok (.aload_n 0, 1) := by decide +kernel
theorem dX10_isNumber_1 : decode cX10_isNumber 1 = .ok (.getfield 141, 3) := by decide +kernel
theorem dX10_isNumber_4 : decode cX10_isNumber 4 = .ok (.iconst 2, 1) := by decide +kernel
theorem dX10_isNumber_5 : decode cX10_isNumber 5 = .ok (.if_icmp .eq 9, 3) := by decide +kernel
theorem dX10_isNumber_8 : decode cX10_isNumber 8 = .ok (.aload_n 0, 1) := by decide +kernel
theorem dX10_isNumber_9 : decode cX10_isNumber 9 = .ok (.iconst 1, 1) := by decide +kernel
theorem dX10_isNumber_10 : decode cX10_isNumber 10 = .ok (.invokevirtual 150, 3) := by decide +kernel
theorem dX10_isNumber_13 : decode cX10_isNumber 13 = .ok (.ireturn, 1) := by decide +kernel
theorem dX10_isNumber_14 : decode cX10_isNumber 14 = .ok (.aload_n 0, 1) := by decide +kernel
theorem dX10_isNumber_15 : decode cX10_isNumber 15 = .ok (.aload_n 0, 1) := by decide +kernel
theorem dX10_isNumber_16 : decode cX10_isNumber 16 = .ok (.getfield 144, 3) := by decide +kernel
theorem dX10_isNumber_19 : decode cX10_isNumber 19 = .ok (.putfield 153, 3) := by decide +kernel
theorem dX10_isNumber_22 : decode cX10_isNumber 22 = .ok (.aload_n 0, 1) := by decide +kernel
theorem dX10_isNumber_23 : decode cX10_isNumber 23 = .ok (.getfield 144, 3) := by decide +kernel
theorem dX10_isNumber_26 : decode cX10_isNumber 26 = .ok (.iload_n 1, 1) := by decide +kernel
theorem dX10_isNumber_27 : decode cX10_isNumber 27 = .ok (.iload_n 2, 1) := by decide +kernel
theorem dX10_isNumber_28 : decode cX10_isNumber 28 = .ok (.invokestatic 7, 3) := by decide +kernel
theorem dX10_isNumber_31 : decode cX10_isNumber 31 = .ok (.ifCond .ne 11, 3) := by decide +kernel
theorem dX10_isNumber_34 : decode cX10_isNumber 34 = .ok (.aload_n 0, 1) := by decide +kernel
theorem dX10_isNumber_35 : decode cX10_isNumber 35 = .ok (.iconst 2, 1) := by decide +kernel
theorem dX10_isNumber_36 : decode cX10_isNumber 36 = .ok (.invokevirtual 150, 3) := by decide +kernel
theorem dX10_isNumber_39 : decode cX10_isNumber 39 = .ok (.ifCond .eq 7, 3) := by decide +kernel
theorem dX10_isNumber_42 : decode cX10_isNumber 42 = .ok (.iconst 1, 1) := by decide +kernel
theorem dX10_isNumber_43 : decode cX10_isNumber 43 = .ok (.goto 4, 3) := by decide +kernel
theorem dX10_isNumber_46 : decode cX10_isNumber 46 = .ok (.iconst 0, 1) := by decide +kernel
theorem dX10_isNumber_47 : decode cX10_isNumber 47 = .ok (.ireturn, 1) := by decide +kernel
abbrev j10_isNumber : xJ := (cX10_isNumber, 3, RX10, 2, 0, 0)
def F10_isNumber (x1 : Int32) (x2 : Int32) (c_from : Int32) (c_token : Int32) (c_value : Int32) (c_fault : Int32) (c_number : Int32) : Option (Int32 × Int32 × Int32) :=
  if c_token = (2 : Int32) then ((F10_within c_value x1 x2).bind (fun v28 => if v28 = 0 then ((F10_bad (2 : Int32) c_from c_fault).bind (fun v36 => if v36.1 = 0 then (some ((0 : Int32), v36.2, c_value)) else (some ((1 : Int32), v36.2, c_value)))) else (some ((1 : Int32), c_fault, c_value)))) else ((F10_bad (1 : Int32) c_from c_fault).bind (fun v10 => xg (xbo v10.1) (some (v10.1, v10.2, c_number))))
theorem T10_isNumber {X : xX} {x1 : Int32} {x2 : Int32} {c_from : Int32} {c_token : Int32} {c_value : Int32} {c_fault : Int32} {c_number : Int32} {c_thrown : Int32} {c_told : (Nat → Int32)} {c_read : (Nat → Int32)} {c_many : (Nat → Int32)} {c_eights : (Nat → Int32)} {c_gains : (Nat → Int32)} {c_notes : (Nat → Int32)} {c_seen : (Nat → Int32)} {c_turns : (Nat → Int32)} {c_drawn : (Nat → Int32)} {c_state : Int32} {c_tape : (Nat → Int32)} {c_taped : Int32} {c_size : Int32} {c_next : Int32} {c_fives : (Nat → Int32)} {c_isLeft : (Nat → Int32)} {c_wentTimes : Int32} {c_goes : (Nat → Int32)} {c_isLeftLaid : Int32} {c_game : (Nat → Int32)} {c_rows : Int32} {c_columns : Int32} {c_isFound : Int32} {c_bestValue : Int64} {c_bestBelow : Int64} {c_bestShare : (Nat → Int64)} {c_share : (Nat → Int64)} {c_matrix : (Nat → Int64)} {c_system : (Nat → Int64)} {c_shares : (Nat → Int32)} {c_allShares : Int32} {v : Int32 × Int32 × Int32} (hX : xIs (j10_isNumber) X ((some .boolean)) (some (.int v.1)) (hM c_thrown c_told c_read c_many c_eights c_gains c_notes c_seen c_turns c_drawn c_state c_tape c_taped c_size c_from c_next c_token c_value v.2.1 v.2.2 c_fives c_isLeft c_wentTimes c_goes c_isLeftLaid c_game c_rows c_columns c_isFound c_bestValue c_bestBelow c_bestShare c_share c_matrix c_system c_shares c_allShares)) (hf : F10_isNumber x1 x2 c_from c_token c_value c_fault c_number = some v) : xV (j10_isNumber) X 0 0 (hM c_thrown c_told c_read c_many c_eights c_gains c_notes c_seen c_turns c_drawn c_state c_tape c_taped c_size c_from c_next c_token c_value c_fault c_number c_fives c_isLeft c_wentTimes c_goes c_isLeftLaid c_game c_rows c_columns c_isFound c_bestValue c_bestBelow c_bestShare c_share c_matrix c_system c_shares c_allShares) 0 [(0, .ref 0), (1, .int x1), (2, .int x2)] [] := by
  unfold F10_isNumber at hf
  refine xV_aload_n 1 rfl dX10_isNumber_0 rfl 0 rfl ?_
  refine xV_get (v := .int c_token) 4 rfl dX10_isNumber_1 f10_141 rfl rfl ?_
  refine xV_iconst 5 rfl dX10_isNumber_4 xk_i2 ?_
  refine xV_icmp_eq (tgt := 14) 8 rfl dX10_isNumber_5 (by decide) (fun h5 => ?_) (fun h5 => ?_)
  · have hf := xif_t hf h5
    refine xV_aload_n 15 rfl dX10_isNumber_14 rfl 0 rfl ?_
    refine xV_aload_n 16 rfl dX10_isNumber_15 rfl 0 rfl ?_
    refine xV_get (v := .int c_value) 19 rfl dX10_isNumber_16 f10_144 rfl rfl ?_
    refine xV_put (h' := (hM c_thrown c_told c_read c_many c_eights c_gains c_notes c_seen c_turns c_drawn c_state c_tape c_taped c_size c_from c_next c_token c_value c_fault c_value c_fives c_isLeft c_wentTimes c_goes c_isLeftLaid c_game c_rows c_columns c_isFound c_bestValue c_bestBelow c_bestShare c_share c_matrix c_system c_shares c_allShares)) 22 rfl dX10_isNumber_19 f10_153 rfl nf10_19 (fun _ => rfl) (fun _ => rfl) (Nat.le_of_ble_eq_true rfl) rfl ?_
    refine xV_aload_n 23 rfl dX10_isNumber_22 rfl 0 rfl ?_
    refine xV_get (v := .int c_value) 26 rfl dX10_isNumber_23 f10_144 rfl rfl ?_
    refine xV_iload_n 27 rfl dX10_isNumber_26 rfl 1 rfl ?_
    refine xV_iload_n 28 rfl dX10_isNumber_27 rfl 2 rfl ?_
    obtain ⟨v28, hv28, hf⟩ := xb_s hf
    refine xV_st0 (rest := []) 31 rfl dX10_isNumber_28 rfl (C10_within X.1.2.1 hv28) m10_within s10_within k10_7 rfl (Nat.le_of_ble_eq_true rfl) (Nat.le_of_ble_eq_true rfl) (Nat.le_of_ble_eq_true rfl) ⟨Nat.le_refl _, Nat.le_refl _⟩ ?_
    show xV (j10_isNumber) X 0 0 (hM c_thrown c_told c_read c_many c_eights c_gains c_notes c_seen c_turns c_drawn c_state c_tape c_taped c_size c_from c_next c_token c_value c_fault c_value c_fives c_isLeft c_wentTimes c_goes c_isLeftLaid c_game c_rows c_columns c_isFound c_bestValue c_bestBelow c_bestShare c_share c_matrix c_system c_shares c_allShares) 31 [(0, .ref 0), (1, .int x1), (2, .int x2)] [.int v28]
    refine xV_if_ne (tgt := 42) 34 rfl dX10_isNumber_31 (by decide) (fun h31 => ?_) (fun h31 => ?_)
    · have hf := xif_f hf h31
      refine xV_iconst 43 rfl dX10_isNumber_42 xk_i1 ?_
      refine xV_goto (tgt := 47) dX10_isNumber_43 (by decide) ?_
      obtain rfl := Option.some.inj hf
      exact xV_iret hX dX10_isNumber_47 (xbo_ok rfl) (Nat.zero_le _) (Nat.zero_le _)
    · have hf := xif_t hf h31
      refine xV_aload_n 35 rfl dX10_isNumber_34 rfl 0 rfl ?_
      refine xV_iconst 36 rfl dX10_isNumber_35 xk_i2 ?_
      obtain ⟨v36, hv36, hf⟩ := xb_s hf
      refine xV_same (rest := []) 39 rfl dX10_isNumber_36 rfl (C10_bad X.1.2.1 hv36) m10_bad v10_bad k10_150 rfl rfl rfl rfl rfl (Nat.le_of_ble_eq_true rfl) (Nat.le_of_ble_eq_true rfl) (Nat.le_of_ble_eq_true rfl) ⟨Nat.le_refl _, Nat.le_refl _⟩ ?_
      show xV (j10_isNumber) X 0 0 (hM c_thrown c_told c_read c_many c_eights c_gains c_notes c_seen c_turns c_drawn c_state c_tape c_taped c_size c_from c_next c_token c_value v36.2 c_value c_fives c_isLeft c_wentTimes c_goes c_isLeftLaid c_game c_rows c_columns c_isFound c_bestValue c_bestBelow c_bestShare c_share c_matrix c_system c_shares c_allShares) 39 [(0, .ref 0), (1, .int x1), (2, .int x2)] [.int v36.1]
      refine xV_if_eq (tgt := 46) 42 rfl dX10_isNumber_39 (by decide) (fun h39 => ?_) (fun h39 => ?_)
      · have hf := xif_t hf h39
        refine xV_iconst 47 rfl dX10_isNumber_46 xk_i0 ?_
        obtain rfl := Option.some.inj hf
        exact xV_iret hX dX10_isNumber_47 (xbo_ok rfl) (Nat.zero_le _) (Nat.zero_le _)
      · have hf := xif_f hf h39
        refine xV_iconst 43 rfl dX10_isNumber_42 xk_i1 ?_
        refine xV_goto (tgt := 47) dX10_isNumber_43 (by decide) ?_
        obtain rfl := Option.some.inj hf
        exact xV_iret hX dX10_isNumber_47 (xbo_ok rfl) (Nat.zero_le _) (Nat.zero_le _)
  · have hf := xif_f hf h5
    refine xV_aload_n 9 rfl dX10_isNumber_8 rfl 0 rfl ?_
    refine xV_iconst 10 rfl dX10_isNumber_9 xk_i1 ?_
    obtain ⟨v10, hv10, hf⟩ := xb_s hf
    refine xV_same (rest := []) 13 rfl dX10_isNumber_10 rfl (C10_bad X.1.2.1 hv10) m10_bad v10_bad k10_150 rfl rfl rfl rfl rfl (Nat.le_of_ble_eq_true rfl) (Nat.le_of_ble_eq_true rfl) (Nat.le_of_ble_eq_true rfl) ⟨Nat.le_refl _, Nat.le_refl _⟩ ?_
    show xV (j10_isNumber) X 0 0 (hM c_thrown c_told c_read c_many c_eights c_gains c_notes c_seen c_turns c_drawn c_state c_tape c_taped c_size c_from c_next c_token c_value v10.2 c_number c_fives c_isLeft c_wentTimes c_goes c_isLeftLaid c_game c_rows c_columns c_isFound c_bestValue c_bestBelow c_bestShare c_share c_matrix c_system c_shares c_allShares) 13 [(0, .ref 0), (1, .int x1), (2, .int x2)] [.int v10.1]
    obtain ⟨hgr, hf⟩ := xg_s hf
    obtain rfl := Option.some.inj hf
    exact xV_iret hX dX10_isNumber_13 (xbo_ok hgr) (Nat.zero_le _) (Nat.zero_le _)
theorem C10_isNumber (l : Launch) {x1 : Int32} {x2 : Int32} {c_from : Int32} {c_token : Int32} {c_value : Int32} {c_fault : Int32} {c_number : Int32} {c_thrown : Int32} {c_told : (Nat → Int32)} {c_read : (Nat → Int32)} {c_many : (Nat → Int32)} {c_eights : (Nat → Int32)} {c_gains : (Nat → Int32)} {c_notes : (Nat → Int32)} {c_seen : (Nat → Int32)} {c_turns : (Nat → Int32)} {c_drawn : (Nat → Int32)} {c_state : Int32} {c_tape : (Nat → Int32)} {c_taped : Int32} {c_size : Int32} {c_next : Int32} {c_fives : (Nat → Int32)} {c_isLeft : (Nat → Int32)} {c_wentTimes : Int32} {c_goes : (Nat → Int32)} {c_isLeftLaid : Int32} {c_game : (Nat → Int32)} {c_rows : Int32} {c_columns : Int32} {c_isFound : Int32} {c_bestValue : Int64} {c_bestBelow : Int64} {c_bestShare : (Nat → Int64)} {c_share : (Nat → Int64)} {c_matrix : (Nat → Int64)} {c_system : (Nat → Int64)} {c_shares : (Nat → Int32)} {c_allShares : Int32} {v : Int32 × Int32 × Int32} (hf : F10_isNumber x1 x2 c_from c_token c_value c_fault c_number = some v) : xCt l yX10_isNumber ((some .boolean)) j10_isNumber [.ref 0, .int x1, .int x2] (hM c_thrown c_told c_read c_many c_eights c_gains c_notes c_seen c_turns c_drawn c_state c_tape c_taped c_size c_from c_next c_token c_value c_fault c_number c_fives c_isLeft c_wentTimes c_goes c_isLeftLaid c_game c_rows c_columns c_isFound c_bestValue c_bestBelow c_bestShare c_share c_matrix c_system c_shares c_allShares) (some (.int v.1)) (hM c_thrown c_told c_read c_many c_eights c_gains c_notes c_seen c_turns c_drawn c_state c_tape c_taped c_size c_from c_next c_token c_value v.2.1 v.2.2 c_fives c_isLeft c_wentTimes c_goes c_isLeftLaid c_game c_rows c_columns c_isFound c_bestValue c_bestBelow c_bestShare c_share c_matrix c_system c_shares c_allShares) := xCt_of (by decide) rfl (Nat.le_of_ble_eq_true rfl) (fun _ hX => T10_isNumber hX hf)
theorem m10_isNumber : xMd yX10_isNumber RX10 ((some .boolean)) j10_isNumber 2 := ⟨List.mem_of_getElem? (i := 445) (by decide +kernel), List.mem_of_getElem? (i := 5) (by decide +kernel), rfl, by decide +kernel⟩
theorem v10_isNumber : xMv yX10_isNumber RX10 := ⟨List.mem_of_getElem? (i := 443) (by decide +kernel), List.mem_of_getElem? (i := 444) (by decide +kernel)⟩
theorem k10_156 : Cond.methodLink RX10 156 yX10_isNumber ∈ wsL_law0 := List.mem_of_getElem? (i := 442) (by decide +kernel)
theorem k10_160 : Cond.methodLink RX10 160 yX10_go ∈ wsL_law0 := List.mem_of_getElem? (i := 416) (by decide +kernel)
theorem dX10_numberIn_0 : decode cX10_numberIn 0 = .ok (.aload_n 0, 1) := by decide +kernel
theorem dX10_numberIn_1 : decode cX10_numberIn 1 = .ok (.iload_n 1, 1) := by decide +kernel
theorem dX10_numberIn_2 : decode cX10_numberIn 2 = .ok (.iload_n 2, 1) := by decide +kernel
theorem dX10_numberIn_3 : decode cX10_numberIn 3 = .ok (.invokevirtual 156, 3) := by decide +kernel
theorem dX10_numberIn_6 : decode cX10_numberIn 6 = .ok (.istore_n 3, 1) := by decide +kernel
theorem dX10_numberIn_7 : decode cX10_numberIn 7 = .ok (.iload_n 3, 1) := by decide +kernel
theorem dX10_numberIn_8 : decode cX10_numberIn 8 = .ok (.ifCond .eq 7, 3) := by decide +kernel
theorem dX10_numberIn_11 : decode cX10_numberIn 11 = .ok (.aload_n 0, 1) := by decide +kernel
theorem dX10_numberIn_12 : decode cX10_numberIn 12 = .ok (.invokevirtual 160, 3) := by decide +kernel
theorem dX10_numberIn_15 : decode cX10_numberIn 15 = .ok (.iload_n 3, 1) := by decide +kernel
theorem dX10_numberIn_16 : decode cX10_numberIn 16 = .ok (.ireturn, 1) := by decide +kernel
abbrev j10_numberIn : xJ := (cX10_numberIn, 4, RX10, 3, 0, 0)
def F10_numberIn (z : Nat) (x1 : Int32) (x2 : Int32) (c_tape : (Nat → Int32)) (c_size : Int32) (c_from : Int32) (c_next : Int32) (c_token : Int32) (c_value : Int32) (c_fault : Int32) (c_number : Int32) : Option (Int32 × Int32 × Int32 × Int32 × Int32 × Int32 × Int32) :=
  (F10_isNumber x1 x2 c_from c_token c_value c_fault c_number).bind (fun v3 => if v3.1 = 0 then (xg (xbo v3.1) (some (v3.1, c_from, c_next, c_token, c_value, v3.2.1, v3.2.2))) else ((F10_go z c_tape c_size c_from c_next c_token c_value).bind (fun v12 => xg (xbo v3.1) (some (v3.1, v12.1, v12.2.1, v12.2.2.1, v12.2.2.2, v3.2.1, v3.2.2)))))
theorem T10_numberIn {X : xX} {z : Nat} {x1 : Int32} {x2 : Int32} {c_tape : (Nat → Int32)} {c_size : Int32} {c_from : Int32} {c_next : Int32} {c_token : Int32} {c_value : Int32} {c_fault : Int32} {c_number : Int32} {c_thrown : Int32} {c_told : (Nat → Int32)} {c_read : (Nat → Int32)} {c_many : (Nat → Int32)} {c_eights : (Nat → Int32)} {c_gains : (Nat → Int32)} {c_notes : (Nat → Int32)} {c_seen : (Nat → Int32)} {c_turns : (Nat → Int32)} {c_drawn : (Nat → Int32)} {c_state : Int32} {c_taped : Int32} {c_fives : (Nat → Int32)} {c_isLeft : (Nat → Int32)} {c_wentTimes : Int32} {c_goes : (Nat → Int32)} {c_isLeftLaid : Int32} {c_game : (Nat → Int32)} {c_rows : Int32} {c_columns : Int32} {c_isFound : Int32} {c_bestValue : Int64} {c_bestBelow : Int64} {c_bestShare : (Nat → Int64)} {c_share : (Nat → Int64)} {c_matrix : (Nat → Int64)} {c_system : (Nat → Int64)} {c_shares : (Nat → Int32)} {c_allShares : Int32} {v : Int32 × Int32 × Int32 × Int32 × Int32 × Int32 × Int32} (hX : xIs (j10_numberIn) X ((some .boolean)) (some (.int v.1)) (hM c_thrown c_told c_read c_many c_eights c_gains c_notes c_seen c_turns c_drawn c_state c_tape c_taped c_size v.2.1 v.2.2.1 v.2.2.2.1 v.2.2.2.2.1 v.2.2.2.2.2.1 v.2.2.2.2.2.2 c_fives c_isLeft c_wentTimes c_goes c_isLeftLaid c_game c_rows c_columns c_isFound c_bestValue c_bestBelow c_bestShare c_share c_matrix c_system c_shares c_allShares)) (hf : F10_numberIn z x1 x2 c_tape c_size c_from c_next c_token c_value c_fault c_number = some v) : xV (j10_numberIn) X 0 0 (hM c_thrown c_told c_read c_many c_eights c_gains c_notes c_seen c_turns c_drawn c_state c_tape c_taped c_size c_from c_next c_token c_value c_fault c_number c_fives c_isLeft c_wentTimes c_goes c_isLeftLaid c_game c_rows c_columns c_isFound c_bestValue c_bestBelow c_bestShare c_share c_matrix c_system c_shares c_allShares) 0 [(0, .ref 0), (1, .int x1), (2, .int x2)] [] := by
  unfold F10_numberIn at hf
  refine xV_aload_n 1 rfl dX10_numberIn_0 rfl 0 rfl ?_
  refine xV_iload_n 2 rfl dX10_numberIn_1 rfl 1 rfl ?_
  refine xV_iload_n 3 rfl dX10_numberIn_2 rfl 2 rfl ?_
  obtain ⟨v3, hv3, hf⟩ := xb_s hf
  refine xV_same (rest := []) 6 rfl dX10_numberIn_3 rfl (C10_isNumber X.1.2.1 hv3) m10_isNumber v10_isNumber k10_156 rfl rfl rfl rfl rfl (Nat.le_of_ble_eq_true rfl) (Nat.le_of_ble_eq_true rfl) (Nat.le_of_ble_eq_true rfl) ⟨Nat.le_refl _, Nat.le_refl _⟩ ?_
  show xV (j10_numberIn) X 0 0 (hM c_thrown c_told c_read c_many c_eights c_gains c_notes c_seen c_turns c_drawn c_state c_tape c_taped c_size c_from c_next c_token c_value v3.2.1 v3.2.2 c_fives c_isLeft c_wentTimes c_goes c_isLeftLaid c_game c_rows c_columns c_isFound c_bestValue c_bestBelow c_bestShare c_share c_matrix c_system c_shares c_allShares) 6 [(0, .ref 0), (1, .int x1), (2, .int x2)] [.int v3.1]
  refine xV_istore_n (L' := [(3, .int v3.1), (0, .ref 0), (1, .int x1), (2, .int x2)]) 7 rfl dX10_numberIn_6 rfl (xlt rfl) rfl ?_
  refine xV_iload_n 8 rfl dX10_numberIn_7 rfl 0 rfl ?_
  refine xV_if_eq (tgt := 15) 11 rfl dX10_numberIn_8 (by decide) (fun h8 => ?_) (fun h8 => ?_)
  · have hf := xif_t hf h8
    refine xV_iload_n 16 rfl dX10_numberIn_15 rfl 0 rfl ?_
    obtain ⟨hgr, hf⟩ := xg_s hf
    obtain rfl := Option.some.inj hf
    exact xV_iret hX dX10_numberIn_16 (xbo_ok hgr) (Nat.zero_le _) (Nat.zero_le _)
  · have hf := xif_f hf h8
    refine xV_aload_n 12 rfl dX10_numberIn_11 rfl 1 rfl ?_
    obtain ⟨v12, hv12, hf⟩ := xb_s hf
    refine xV_same (rest := []) 15 rfl dX10_numberIn_12 rfl (C10_go X.1.2.1 hv12) m10_go v10_go k10_160 rfl rfl rfl rfl rfl (Nat.le_of_ble_eq_true rfl) (Nat.le_of_ble_eq_true rfl) (Nat.le_of_ble_eq_true rfl) ⟨Nat.le_refl _, Nat.le_refl _⟩ ?_
    show xV (j10_numberIn) X 0 0 (hM c_thrown c_told c_read c_many c_eights c_gains c_notes c_seen c_turns c_drawn c_state c_tape c_taped c_size v12.1 v12.2.1 v12.2.2.1 v12.2.2.2 v3.2.1 v3.2.2 c_fives c_isLeft c_wentTimes c_goes c_isLeftLaid c_game c_rows c_columns c_isFound c_bestValue c_bestBelow c_bestShare c_share c_matrix c_system c_shares c_allShares) 15 [(3, .int v3.1), (0, .ref 0), (1, .int x1), (2, .int x2)] []
    refine xV_iload_n 16 rfl dX10_numberIn_15 rfl 0 rfl ?_
    obtain ⟨hgr, hf⟩ := xg_s hf
    obtain rfl := Option.some.inj hf
    exact xV_iret hX dX10_numberIn_16 (xbo_ok hgr) (Nat.zero_le _) (Nat.zero_le _)
theorem C10_numberIn (l : Launch) {z : Nat} {x1 : Int32} {x2 : Int32} {c_tape : (Nat → Int32)} {c_size : Int32} {c_from : Int32} {c_next : Int32} {c_token : Int32} {c_value : Int32} {c_fault : Int32} {c_number : Int32} {c_thrown : Int32} {c_told : (Nat → Int32)} {c_read : (Nat → Int32)} {c_many : (Nat → Int32)} {c_eights : (Nat → Int32)} {c_gains : (Nat → Int32)} {c_notes : (Nat → Int32)} {c_seen : (Nat → Int32)} {c_turns : (Nat → Int32)} {c_drawn : (Nat → Int32)} {c_state : Int32} {c_taped : Int32} {c_fives : (Nat → Int32)} {c_isLeft : (Nat → Int32)} {c_wentTimes : Int32} {c_goes : (Nat → Int32)} {c_isLeftLaid : Int32} {c_game : (Nat → Int32)} {c_rows : Int32} {c_columns : Int32} {c_isFound : Int32} {c_bestValue : Int64} {c_bestBelow : Int64} {c_bestShare : (Nat → Int64)} {c_share : (Nat → Int64)} {c_matrix : (Nat → Int64)} {c_system : (Nat → Int64)} {c_shares : (Nat → Int32)} {c_allShares : Int32} {v : Int32 × Int32 × Int32 × Int32 × Int32 × Int32 × Int32} (hf : F10_numberIn z x1 x2 c_tape c_size c_from c_next c_token c_value c_fault c_number = some v) : xCt l yX10_numberIn ((some .boolean)) j10_numberIn [.ref 0, .int x1, .int x2] (hM c_thrown c_told c_read c_many c_eights c_gains c_notes c_seen c_turns c_drawn c_state c_tape c_taped c_size c_from c_next c_token c_value c_fault c_number c_fives c_isLeft c_wentTimes c_goes c_isLeftLaid c_game c_rows c_columns c_isFound c_bestValue c_bestBelow c_bestShare c_share c_matrix c_system c_shares c_allShares) (some (.int v.1)) (hM c_thrown c_told c_read c_many c_eights c_gains c_notes c_seen c_turns c_drawn c_state c_tape c_taped c_size v.2.1 v.2.2.1 v.2.2.2.1 v.2.2.2.2.1 v.2.2.2.2.2.1 v.2.2.2.2.2.2 c_fives c_isLeft c_wentTimes c_goes c_isLeftLaid c_game c_rows c_columns c_isFound c_bestValue c_bestBelow c_bestShare c_share c_matrix c_system c_shares c_allShares) := xCt_of (by decide) rfl (Nat.le_of_ble_eq_true rfl) (fun _ hX => T10_numberIn hX hf)
theorem m10_numberIn : xMd yX10_numberIn RX10 ((some .boolean)) j10_numberIn 2 := ⟨List.mem_of_getElem? (i := 463) (by decide +kernel), List.mem_of_getElem? (i := 5) (by decide +kernel), rfl, by decide +kernel⟩
theorem v10_numberIn : xMv yX10_numberIn RX10 := ⟨List.mem_of_getElem? (i := 461) (by decide +kernel), List.mem_of_getElem? (i := 462) (by decide +kernel)⟩
theorem f10_21 : xFl RX10 21 10 2 := ⟨_, rfl, by decide, List.mem_of_getElem? (i := 123) (by decide +kernel)⟩
theorem k10_163 : Cond.methodLink RX10 163 yX10_worths ∈ wsL_law0 := List.mem_of_getElem? (i := 439) (by decide +kernel)
theorem dX10_fieldsLine_0 : decode cX10_fieldsLine 0 = .ok (.aload_n 0, 1) := by decide +kernel
theorem dX10_fieldsLine_1 : decode cX10_fieldsLine 1 = .ok (.invokevirtual 160, 3) := by decide +kernel
theorem dX10_fieldsLine_4 : decode cX10_fieldsLine 4 = .ok (.aload_n 0, 1) := by decide +kernel
theorem dX10_fieldsLine_5 : decode cX10_fieldsLine 5 = .ok (.getfield 21, 3) := by decide +kernel
theorem dX10_fieldsLine_8 : decode cX10_fieldsLine 8 = .ok (.iconst 0, 1) := by decide +kernel
theorem dX10_fieldsLine_9 : decode cX10_fieldsLine 9 = .ok (.iconst 0, 1) := by decide +kernel
theorem dX10_fieldsLine_10 : decode cX10_fieldsLine 10 = .ok (.iastore, 1) := by decide +kernel
theorem dX10_fieldsLine_11 : decode cX10_fieldsLine 11 = .ok (.iconst 1, 1) := by decide +kernel
theorem dX10_fieldsLine_12 : decode cX10_fieldsLine 12 = .ok (.istore_n 1, 1) := by decide +kernel
theorem dX10_fieldsLine_13 : decode cX10_fieldsLine 13 = .ok (.iconst 1, 1) := by decide +kernel
theorem dX10_fieldsLine_14 : decode cX10_fieldsLine 14 = .ok (.istore_n 2, 1) := by decide +kernel
theorem dX10_fieldsLine_15 : decode cX10_fieldsLine 15 = .ok (.iload_n 1, 1) := by decide +kernel
theorem dX10_fieldsLine_16 : decode cX10_fieldsLine 16 = .ok (.ifCond .eq 95, 3) := by decide +kernel
theorem dX10_fieldsLine_19 : decode cX10_fieldsLine 19 = .ok (.iload_n 2, 1) := by decide +kernel
theorem dX10_fieldsLine_20 : decode cX10_fieldsLine 20 = .ok (.ifCond .eq 91, 3) := by decide +kernel
theorem dX10_fieldsLine_23 : decode cX10_fieldsLine 23 = .ok (.aload_n 0, 1) := by decide +kernel
theorem dX10_fieldsLine_24 : decode cX10_fieldsLine 24 = .ok (.iconst 1, 1) := by decide +kernel
theorem dX10_fieldsLine_25 : decode cX10_fieldsLine 25 = .ok (.bipush 8, 2) := by decide +kernel
theorem dX10_fieldsLine_27 : decode cX10_fieldsLine 27 = .ok (.aload_n 0, 1) := by decide +kernel
theorem dX10_fieldsLine_28 : decode cX10_fieldsLine 28 = .ok (.getfield 21, 3) := by decide +kernel
theorem dX10_fieldsLine_31 : decode cX10_fieldsLine 31 = .ok (.invokestatic 163, 3) := by decide +kernel
theorem dX10_fieldsLine_34 : decode cX10_fieldsLine 34 = .ok (.isub, 1) := by decide +kernel
theorem dX10_fieldsLine_35 : decode cX10_fieldsLine 35 = .ok (.invokevirtual 156, 3) := by decide +kernel
theorem dX10_fieldsLine_38 : decode cX10_fieldsLine 38 = .ok (.istore_n 1, 1) := by decide +kernel
theorem dX10_fieldsLine_39 : decode cX10_fieldsLine 39 = .ok (.iload_n 1, 1) := by decide +kernel
theorem dX10_fieldsLine_40 : decode cX10_fieldsLine 40 = .ok (.ifCond .eq 19, 3) := by decide +kernel
theorem dX10_fieldsLine_43 : decode cX10_fieldsLine 43 = .ok (.aload_n 0, 1) := by decide +kernel
theorem dX10_fieldsLine_44 : decode cX10_fieldsLine 44 = .ok (.getfield 21, 3) := by decide +kernel
theorem dX10_fieldsLine_47 : decode cX10_fieldsLine 47 = .ok (.iconst 0, 1) := by decide +kernel
theorem dX10_fieldsLine_48 : decode cX10_fieldsLine 48 = .ok (.iaload, 1) := by decide +kernel
theorem dX10_fieldsLine_49 : decode cX10_fieldsLine 49 = .ok (.iconst 4, 1) := by decide +kernel
theorem dX10_fieldsLine_50 : decode cX10_fieldsLine 50 = .ok (.if_icmp .ne 9, 3) := by decide +kernel
theorem dX10_fieldsLine_53 : decode cX10_fieldsLine 53 = .ok (.aload_n 0, 1) := by decide +kernel
theorem dX10_fieldsLine_54 : decode cX10_fieldsLine 54 = .ok (.iconst 4, 1) := by decide +kernel
theorem dX10_fieldsLine_55 : decode cX10_fieldsLine 55 = .ok (.invokevirtual 150, 3) := by decide +kernel
theorem dX10_fieldsLine_58 : decode cX10_fieldsLine 58 = .ok (.istore_n 1, 1) := by decide +kernel
theorem dX10_fieldsLine_59 : decode cX10_fieldsLine 59 = .ok (.iload_n 1, 1) := by decide +kernel
theorem dX10_fieldsLine_60 : decode cX10_fieldsLine 60 = .ok (.ifCond .eq 34, 3) := by decide +kernel
theorem dX10_fieldsLine_63 : decode cX10_fieldsLine 63 = .ok (.aload_n 0, 1) := by decide +kernel
theorem dX10_fieldsLine_64 : decode cX10_fieldsLine 64 = .ok (.getfield 21, 3) := by decide +kernel
theorem dX10_fieldsLine_67 : decode cX10_fieldsLine 67 = .ok (.iconst 1, 1) := by decide +kernel
theorem dX10_fieldsLine_68 : decode cX10_fieldsLine 68 = .ok (.aload_n 0, 1) := by decide +kernel
theorem dX10_fieldsLine_69 : decode cX10_fieldsLine 69 = .ok (.getfield 21, 3) := by decide +kernel
theorem dX10_fieldsLine_72 : decode cX10_fieldsLine 72 = .ok (.iconst 0, 1) := by decide +kernel
theorem dX10_fieldsLine_73 : decode cX10_fieldsLine 73 = .ok (.iaload, 1) := by decide +kernel
theorem dX10_fieldsLine_74 : decode cX10_fieldsLine 74 = .ok (.iadd, 1) := by decide +kernel
theorem dX10_fieldsLine_75 : decode cX10_fieldsLine 75 = .ok (.aload_n 0, 1) := by decide +kernel
theorem dX10_fieldsLine_76 : decode cX10_fieldsLine 76 = .ok (.getfield 153, 3) := by decide +kernel
theorem dX10_fieldsLine_79 : decode cX10_fieldsLine 79 = .ok (.iastore, 1) := by decide +kernel
theorem dX10_fieldsLine_80 : decode cX10_fieldsLine 80 = .ok (.aload_n 0, 1) := by decide +kernel
theorem dX10_fieldsLine_81 : decode cX10_fieldsLine 81 = .ok (.getfield 21, 3) := by decide +kernel
theorem dX10_fieldsLine_84 : decode cX10_fieldsLine 84 = .ok (.iconst 0, 1) := by decide +kernel
theorem dX10_fieldsLine_85 : decode cX10_fieldsLine 85 = .ok (.dup2, 1) := by decide +kernel
theorem dX10_fieldsLine_86 : decode cX10_fieldsLine 86 = .ok (.iaload, 1) := by decide +kernel
theorem dX10_fieldsLine_87 : decode cX10_fieldsLine 87 = .ok (.iconst 1, 1) := by decide +kernel
theorem dX10_fieldsLine_88 : decode cX10_fieldsLine 88 = .ok (.iadd, 1) := by decide +kernel
theorem dX10_fieldsLine_89 : decode cX10_fieldsLine 89 = .ok (.iastore, 1) := by decide +kernel
theorem dX10_fieldsLine_90 : decode cX10_fieldsLine 90 = .ok (.aload_n 0, 1) := by decide +kernel
theorem dX10_fieldsLine_91 : decode cX10_fieldsLine 91 = .ok (.invokevirtual 160, 3) := by decide +kernel
theorem dX10_fieldsLine_94 : decode cX10_fieldsLine 94 = .ok (.aload_n 0, 1) := by decide +kernel
theorem dX10_fieldsLine_95 : decode cX10_fieldsLine 95 = .ok (.getfield 141, 3) := by decide +kernel
theorem dX10_fieldsLine_98 : decode cX10_fieldsLine 98 = .ok (.iconst 2, 1) := by decide +kernel
theorem dX10_fieldsLine_99 : decode cX10_fieldsLine 99 = .ok (.if_icmp .ne 7, 3) := by decide +kernel
theorem dX10_fieldsLine_102 : decode cX10_fieldsLine 102 = .ok (.iconst 1, 1) := by decide +kernel
theorem dX10_fieldsLine_103 : decode cX10_fieldsLine 103 = .ok (.goto 4, 3) := by decide +kernel
theorem dX10_fieldsLine_106 : decode cX10_fieldsLine 106 = .ok (.iconst 0, 1) := by decide +kernel
theorem dX10_fieldsLine_107 : decode cX10_fieldsLine 107 = .ok (.istore_n 2, 1) := by decide +kernel
theorem dX10_fieldsLine_108 : decode cX10_fieldsLine 108 = .ok (.goto (-93), 3) := by decide +kernel
theorem dX10_fieldsLine_111 : decode cX10_fieldsLine 111 = .ok (.aload_n 0, 1) := by decide +kernel
theorem dX10_fieldsLine_112 : decode cX10_fieldsLine 112 = .ok (.getfield 21, 3) := by decide +kernel
theorem dX10_fieldsLine_115 : decode cX10_fieldsLine 115 = .ok (.invokestatic 112, 3) := by decide +kernel
theorem dX10_fieldsLine_118 : decode cX10_fieldsLine 118 = .ok (.iload_n 1, 1) := by decide +kernel
theorem dX10_fieldsLine_119 : decode cX10_fieldsLine 119 = .ok (.ireturn, 1) := by decide +kernel
abbrev j10_fieldsLine : xJ := (cX10_fieldsLine, 3, RX10, 3, 0, 0)
def F10_fieldsLine_b111 (z : Nat) (x1 : Int32) (c_read : (Nat → Int32)) (c_tape : (Nat → Int32)) (c_size : Int32) (c_from : Int32) (c_next : Int32) (c_token : Int32) (c_value : Int32) (c_fault : Int32) (c_number : Int32) : Option (Int32 × (Nat → Int32) × Int32 × Int32 × Int32 × Int32 × Int32 × Int32) :=
  (F10_endsBooks z c_read).bind (fun v115 => xg (xbo x1) (some (x1, v115, c_from, c_next, c_token, c_value, c_fault, c_number)))
theorem T10_fieldsLine_b111 {X : xX} {c_thrown : Int32} {c_told : (Nat → Int32)} {c_many : (Nat → Int32)} {c_eights : (Nat → Int32)} {c_gains : (Nat → Int32)} {c_notes : (Nat → Int32)} {c_seen : (Nat → Int32)} {c_turns : (Nat → Int32)} {c_drawn : (Nat → Int32)} {c_state : Int32} {c_taped : Int32} {c_fives : (Nat → Int32)} {c_isLeft : (Nat → Int32)} {c_wentTimes : Int32} {c_goes : (Nat → Int32)} {c_isLeftLaid : Int32} {c_game : (Nat → Int32)} {c_rows : Int32} {c_columns : Int32} {c_isFound : Int32} {c_bestValue : Int64} {c_bestBelow : Int64} {c_bestShare : (Nat → Int64)} {c_share : (Nat → Int64)} {c_matrix : (Nat → Int64)} {c_system : (Nat → Int64)} {c_shares : (Nat → Int32)} {c_allShares : Int32} {x1 : Int32} {c_read : (Nat → Int32)} {c_tape : (Nat → Int32)} {c_size : Int32} {c_from : Int32} {c_next : Int32} {c_token : Int32} {c_value : Int32} {c_fault : Int32} {c_number : Int32} {z : Nat} {v : Int32 × (Nat → Int32) × Int32 × Int32 × Int32 × Int32 × Int32 × Int32} (hX : xIs (j10_fieldsLine) X ((some .boolean)) (some (.int v.1)) (hM c_thrown c_told v.2.1 c_many c_eights c_gains c_notes c_seen c_turns c_drawn c_state c_tape c_taped c_size v.2.2.1 v.2.2.2.1 v.2.2.2.2.1 v.2.2.2.2.2.1 v.2.2.2.2.2.2.1 v.2.2.2.2.2.2.2 c_fives c_isLeft c_wentTimes c_goes c_isLeftLaid c_game c_rows c_columns c_isFound c_bestValue c_bestBelow c_bestShare c_share c_matrix c_system c_shares c_allShares)) (hf : F10_fieldsLine_b111 z x1 c_read c_tape c_size c_from c_next c_token c_value c_fault c_number = some v) : xV (j10_fieldsLine) X 0 0 (hM c_thrown c_told c_read c_many c_eights c_gains c_notes c_seen c_turns c_drawn c_state c_tape c_taped c_size c_from c_next c_token c_value c_fault c_number c_fives c_isLeft c_wentTimes c_goes c_isLeftLaid c_game c_rows c_columns c_isFound c_bestValue c_bestBelow c_bestShare c_share c_matrix c_system c_shares c_allShares) 111 [(0, .ref 0), (1, .int x1)] [] := by
  unfold F10_fieldsLine_b111 at hf
  refine xV_aload_n 112 rfl dX10_fieldsLine_111 rfl 0 rfl ?_
  refine xV_get (v := .ref 2) 115 rfl dX10_fieldsLine_112 f10_21 rfl rfl ?_
  obtain ⟨v115, hv115, hf⟩ := xb_s hf
  refine xV_st1 (h' := (hM c_thrown c_told v115 c_many c_eights c_gains c_notes c_seen c_turns c_drawn c_state c_tape c_taped c_size c_from c_next c_token c_value c_fault c_number c_fives c_isLeft c_wentTimes c_goes c_isLeftLaid c_game c_rows c_columns c_isFound c_bestValue c_bestBelow c_bestShare c_share c_matrix c_system c_shares c_allShares)) (rest := []) 118 rfl dX10_fieldsLine_115 rfl (C10_endsBooks X.1.2.1 hv115) m10_endsBooks s10_endsBooks k10_112 rfl rfl rfl rfl rfl rfl (Nat.le_of_ble_eq_true rfl) (Nat.le_of_ble_eq_true rfl) (Nat.le_of_ble_eq_true rfl) ⟨Nat.le_refl _, Nat.le_refl _⟩ ?_
  show xV (j10_fieldsLine) X 0 0 (hM c_thrown c_told v115 c_many c_eights c_gains c_notes c_seen c_turns c_drawn c_state c_tape c_taped c_size c_from c_next c_token c_value c_fault c_number c_fives c_isLeft c_wentTimes c_goes c_isLeftLaid c_game c_rows c_columns c_isFound c_bestValue c_bestBelow c_bestShare c_share c_matrix c_system c_shares c_allShares) 118 [(0, .ref 0), (1, .int x1)] []
  refine xV_iload_n 119 rfl dX10_fieldsLine_118 rfl 1 rfl ?_
  obtain ⟨hgr, hf⟩ := xg_s hf
  obtain rfl := Option.some.inj hf
  exact xV_iret hX dX10_fieldsLine_119 (xbo_ok hgr) (Nat.zero_le _) (Nat.zero_le _)
def F10_fieldsLine_b107 (z : Nat) (x1 : Int32) (s0 : Int32) (c_read : (Nat → Int32)) (c_tape : (Nat → Int32)) (c_size : Int32) (c_from : Int32) (c_next : Int32) (c_token : Int32) (c_value : Int32) (c_fault : Int32) (c_number : Int32) (k15 : Int32 → Int32 → (Nat → Int32) → (Nat → Int32) → Int32 → Int32 → Int32 → Int32 → Int32 → Int32 → Int32 → Option (Int32 × (Nat → Int32) × Int32 × Int32 × Int32 × Int32 × Int32 × Int32)) : Option (Int32 × (Nat → Int32) × Int32 × Int32 × Int32 × Int32 × Int32 × Int32) :=
  k15 x1 s0 c_read c_tape c_size c_from c_next c_token c_value c_fault c_number
theorem T10_fieldsLine_b107 {X : xX} {c_thrown : Int32} {c_told : (Nat → Int32)} {c_many : (Nat → Int32)} {c_eights : (Nat → Int32)} {c_gains : (Nat → Int32)} {c_notes : (Nat → Int32)} {c_seen : (Nat → Int32)} {c_turns : (Nat → Int32)} {c_drawn : (Nat → Int32)} {c_state : Int32} {c_taped : Int32} {c_fives : (Nat → Int32)} {c_isLeft : (Nat → Int32)} {c_wentTimes : Int32} {c_goes : (Nat → Int32)} {c_isLeftLaid : Int32} {c_game : (Nat → Int32)} {c_rows : Int32} {c_columns : Int32} {c_isFound : Int32} {c_bestValue : Int64} {c_bestBelow : Int64} {c_bestShare : (Nat → Int64)} {c_share : (Nat → Int64)} {c_matrix : (Nat → Int64)} {c_system : (Nat → Int64)} {c_shares : (Nat → Int32)} {c_allShares : Int32} {x1 : Int32} {s0 : Int32} {c_read : (Nat → Int32)} {c_tape : (Nat → Int32)} {c_size : Int32} {c_from : Int32} {c_next : Int32} {c_token : Int32} {c_value : Int32} {c_fault : Int32} {c_number : Int32} {z : Nat} {v : Int32 × (Nat → Int32) × Int32 × Int32 × Int32 × Int32 × Int32 × Int32} {k15 : Int32 → Int32 → (Nat → Int32) → (Nat → Int32) → Int32 → Int32 → Int32 → Int32 → Int32 → Int32 → Int32 → Option (Int32 × (Nat → Int32) × Int32 × Int32 × Int32 × Int32 × Int32 × Int32)} (hX : xIs (j10_fieldsLine) X ((some .boolean)) (some (.int v.1)) (hM c_thrown c_told v.2.1 c_many c_eights c_gains c_notes c_seen c_turns c_drawn c_state c_tape c_taped c_size v.2.2.1 v.2.2.2.1 v.2.2.2.2.1 v.2.2.2.2.2.1 v.2.2.2.2.2.2.1 v.2.2.2.2.2.2.2 c_fives c_isLeft c_wentTimes c_goes c_isLeftLaid c_game c_rows c_columns c_isFound c_bestValue c_bestBelow c_bestShare c_share c_matrix c_system c_shares c_allShares)) (hk15 : ∀ {x1 : Int32} {x2 : Int32} {c_read : (Nat → Int32)} {c_from : Int32} {c_next : Int32} {c_token : Int32} {c_value : Int32} {c_fault : Int32} {c_number : Int32}, k15 x1 x2 c_read c_tape c_size c_from c_next c_token c_value c_fault c_number = some v → xV (j10_fieldsLine) X 0 0 (hM c_thrown c_told c_read c_many c_eights c_gains c_notes c_seen c_turns c_drawn c_state c_tape c_taped c_size c_from c_next c_token c_value c_fault c_number c_fives c_isLeft c_wentTimes c_goes c_isLeftLaid c_game c_rows c_columns c_isFound c_bestValue c_bestBelow c_bestShare c_share c_matrix c_system c_shares c_allShares) 15 [(0, .ref 0), (1, .int x1), (2, .int x2)] []) (hf : F10_fieldsLine_b107 z x1 s0 c_read c_tape c_size c_from c_next c_token c_value c_fault c_number k15 = some v) : xV (j10_fieldsLine) X 0 0 (hM c_thrown c_told c_read c_many c_eights c_gains c_notes c_seen c_turns c_drawn c_state c_tape c_taped c_size c_from c_next c_token c_value c_fault c_number c_fives c_isLeft c_wentTimes c_goes c_isLeftLaid c_game c_rows c_columns c_isFound c_bestValue c_bestBelow c_bestShare c_share c_matrix c_system c_shares c_allShares) 107 [(0, .ref 0), (1, .int x1)] [.int s0] := by
  unfold F10_fieldsLine_b107 at hf
  refine xV_istore_n (L' := [(2, .int s0), (0, .ref 0), (1, .int x1)]) 108 rfl dX10_fieldsLine_107 rfl (xlt rfl) rfl ?_
  refine xV_goto (tgt := 15) dX10_fieldsLine_108 (by decide) ?_
  refine xV_sub [1, 2, 0] rfl ?_
  exact hk15 hf
def F10_fieldsLine_b94 (z : Nat) (x1 : Int32) (c_read : (Nat → Int32)) (c_tape : (Nat → Int32)) (c_size : Int32) (c_from : Int32) (c_next : Int32) (c_token : Int32) (c_value : Int32) (c_fault : Int32) (c_number : Int32) (k15 : Int32 → Int32 → (Nat → Int32) → (Nat → Int32) → Int32 → Int32 → Int32 → Int32 → Int32 → Int32 → Int32 → Option (Int32 × (Nat → Int32) × Int32 × Int32 × Int32 × Int32 × Int32 × Int32)) : Option (Int32 × (Nat → Int32) × Int32 × Int32 × Int32 × Int32 × Int32 × Int32) :=
  if c_token = (2 : Int32) then (F10_fieldsLine_b107 z x1 (1 : Int32) c_read c_tape c_size c_from c_next c_token c_value c_fault c_number k15) else (F10_fieldsLine_b107 z x1 (0 : Int32) c_read c_tape c_size c_from c_next c_token c_value c_fault c_number k15)
theorem T10_fieldsLine_b94 {X : xX} {c_thrown : Int32} {c_told : (Nat → Int32)} {c_many : (Nat → Int32)} {c_eights : (Nat → Int32)} {c_gains : (Nat → Int32)} {c_notes : (Nat → Int32)} {c_seen : (Nat → Int32)} {c_turns : (Nat → Int32)} {c_drawn : (Nat → Int32)} {c_state : Int32} {c_taped : Int32} {c_fives : (Nat → Int32)} {c_isLeft : (Nat → Int32)} {c_wentTimes : Int32} {c_goes : (Nat → Int32)} {c_isLeftLaid : Int32} {c_game : (Nat → Int32)} {c_rows : Int32} {c_columns : Int32} {c_isFound : Int32} {c_bestValue : Int64} {c_bestBelow : Int64} {c_bestShare : (Nat → Int64)} {c_share : (Nat → Int64)} {c_matrix : (Nat → Int64)} {c_system : (Nat → Int64)} {c_shares : (Nat → Int32)} {c_allShares : Int32} {x1 : Int32} {c_read : (Nat → Int32)} {c_tape : (Nat → Int32)} {c_size : Int32} {c_from : Int32} {c_next : Int32} {c_token : Int32} {c_value : Int32} {c_fault : Int32} {c_number : Int32} {z : Nat} {v : Int32 × (Nat → Int32) × Int32 × Int32 × Int32 × Int32 × Int32 × Int32} {k15 : Int32 → Int32 → (Nat → Int32) → (Nat → Int32) → Int32 → Int32 → Int32 → Int32 → Int32 → Int32 → Int32 → Option (Int32 × (Nat → Int32) × Int32 × Int32 × Int32 × Int32 × Int32 × Int32)} (hX : xIs (j10_fieldsLine) X ((some .boolean)) (some (.int v.1)) (hM c_thrown c_told v.2.1 c_many c_eights c_gains c_notes c_seen c_turns c_drawn c_state c_tape c_taped c_size v.2.2.1 v.2.2.2.1 v.2.2.2.2.1 v.2.2.2.2.2.1 v.2.2.2.2.2.2.1 v.2.2.2.2.2.2.2 c_fives c_isLeft c_wentTimes c_goes c_isLeftLaid c_game c_rows c_columns c_isFound c_bestValue c_bestBelow c_bestShare c_share c_matrix c_system c_shares c_allShares)) (hk15 : ∀ {x1 : Int32} {x2 : Int32} {c_read : (Nat → Int32)} {c_from : Int32} {c_next : Int32} {c_token : Int32} {c_value : Int32} {c_fault : Int32} {c_number : Int32}, k15 x1 x2 c_read c_tape c_size c_from c_next c_token c_value c_fault c_number = some v → xV (j10_fieldsLine) X 0 0 (hM c_thrown c_told c_read c_many c_eights c_gains c_notes c_seen c_turns c_drawn c_state c_tape c_taped c_size c_from c_next c_token c_value c_fault c_number c_fives c_isLeft c_wentTimes c_goes c_isLeftLaid c_game c_rows c_columns c_isFound c_bestValue c_bestBelow c_bestShare c_share c_matrix c_system c_shares c_allShares) 15 [(0, .ref 0), (1, .int x1), (2, .int x2)] []) (hf : F10_fieldsLine_b94 z x1 c_read c_tape c_size c_from c_next c_token c_value c_fault c_number k15 = some v) : xV (j10_fieldsLine) X 0 0 (hM c_thrown c_told c_read c_many c_eights c_gains c_notes c_seen c_turns c_drawn c_state c_tape c_taped c_size c_from c_next c_token c_value c_fault c_number c_fives c_isLeft c_wentTimes c_goes c_isLeftLaid c_game c_rows c_columns c_isFound c_bestValue c_bestBelow c_bestShare c_share c_matrix c_system c_shares c_allShares) 94 [(0, .ref 0), (1, .int x1)] [] := by
  unfold F10_fieldsLine_b94 at hf
  refine xV_aload_n 95 rfl dX10_fieldsLine_94 rfl 0 rfl ?_
  refine xV_get (v := .int c_token) 98 rfl dX10_fieldsLine_95 f10_141 rfl rfl ?_
  refine xV_iconst 99 rfl dX10_fieldsLine_98 xk_i2 ?_
  refine xV_icmp_ne (tgt := 106) 102 rfl dX10_fieldsLine_99 (by decide) (fun h99 => ?_) (fun h99 => ?_)
  · have hf := xif_f hf h99
    refine xV_iconst 107 rfl dX10_fieldsLine_106 xk_i0 ?_
    exact T10_fieldsLine_b107 hX hk15 hf
  · have hf := xif_t hf h99
    refine xV_iconst 103 rfl dX10_fieldsLine_102 xk_i1 ?_
    refine xV_goto (tgt := 107) dX10_fieldsLine_103 (by decide) ?_
    exact T10_fieldsLine_b107 hX hk15 hf
def F10_fieldsLine_b59 (z : Nat) (x1 : Int32) (c_read : (Nat → Int32)) (c_tape : (Nat → Int32)) (c_size : Int32) (c_from : Int32) (c_next : Int32) (c_token : Int32) (c_value : Int32) (c_fault : Int32) (c_number : Int32) (k15 : Int32 → Int32 → (Nat → Int32) → (Nat → Int32) → Int32 → Int32 → Int32 → Int32 → Int32 → Int32 → Int32 → Option (Int32 × (Nat → Int32) × Int32 × Int32 × Int32 × Int32 × Int32 × Int32)) : Option (Int32 × (Nat → Int32) × Int32 × Int32 × Int32 × Int32 × Int32 × Int32) :=
  if x1 = 0 then (F10_fieldsLine_b94 z x1 c_read c_tape c_size c_from c_next c_token c_value c_fault c_number k15) else (xg (xin ((1 : Int32) + (c_read 0)) 56) ((F10_go z c_tape c_size c_from c_next c_token c_value).bind (fun v91 => F10_fieldsLine_b94 z x1 (upd (upd c_read (xn ((1 : Int32) + (c_read 0))) c_number) 0 (((upd c_read (xn ((1 : Int32) + (c_read 0))) c_number) 0) + (1 : Int32))) c_tape c_size v91.1 v91.2.1 v91.2.2.1 v91.2.2.2 c_fault c_number k15)))
theorem T10_fieldsLine_b59 {X : xX} {c_thrown : Int32} {c_told : (Nat → Int32)} {c_many : (Nat → Int32)} {c_eights : (Nat → Int32)} {c_gains : (Nat → Int32)} {c_notes : (Nat → Int32)} {c_seen : (Nat → Int32)} {c_turns : (Nat → Int32)} {c_drawn : (Nat → Int32)} {c_state : Int32} {c_taped : Int32} {c_fives : (Nat → Int32)} {c_isLeft : (Nat → Int32)} {c_wentTimes : Int32} {c_goes : (Nat → Int32)} {c_isLeftLaid : Int32} {c_game : (Nat → Int32)} {c_rows : Int32} {c_columns : Int32} {c_isFound : Int32} {c_bestValue : Int64} {c_bestBelow : Int64} {c_bestShare : (Nat → Int64)} {c_share : (Nat → Int64)} {c_matrix : (Nat → Int64)} {c_system : (Nat → Int64)} {c_shares : (Nat → Int32)} {c_allShares : Int32} {x1 : Int32} {c_read : (Nat → Int32)} {c_tape : (Nat → Int32)} {c_size : Int32} {c_from : Int32} {c_next : Int32} {c_token : Int32} {c_value : Int32} {c_fault : Int32} {c_number : Int32} {z : Nat} {v : Int32 × (Nat → Int32) × Int32 × Int32 × Int32 × Int32 × Int32 × Int32} {k15 : Int32 → Int32 → (Nat → Int32) → (Nat → Int32) → Int32 → Int32 → Int32 → Int32 → Int32 → Int32 → Int32 → Option (Int32 × (Nat → Int32) × Int32 × Int32 × Int32 × Int32 × Int32 × Int32)} (hX : xIs (j10_fieldsLine) X ((some .boolean)) (some (.int v.1)) (hM c_thrown c_told v.2.1 c_many c_eights c_gains c_notes c_seen c_turns c_drawn c_state c_tape c_taped c_size v.2.2.1 v.2.2.2.1 v.2.2.2.2.1 v.2.2.2.2.2.1 v.2.2.2.2.2.2.1 v.2.2.2.2.2.2.2 c_fives c_isLeft c_wentTimes c_goes c_isLeftLaid c_game c_rows c_columns c_isFound c_bestValue c_bestBelow c_bestShare c_share c_matrix c_system c_shares c_allShares)) (hk15 : ∀ {x1 : Int32} {x2 : Int32} {c_read : (Nat → Int32)} {c_from : Int32} {c_next : Int32} {c_token : Int32} {c_value : Int32} {c_fault : Int32} {c_number : Int32}, k15 x1 x2 c_read c_tape c_size c_from c_next c_token c_value c_fault c_number = some v → xV (j10_fieldsLine) X 0 0 (hM c_thrown c_told c_read c_many c_eights c_gains c_notes c_seen c_turns c_drawn c_state c_tape c_taped c_size c_from c_next c_token c_value c_fault c_number c_fives c_isLeft c_wentTimes c_goes c_isLeftLaid c_game c_rows c_columns c_isFound c_bestValue c_bestBelow c_bestShare c_share c_matrix c_system c_shares c_allShares) 15 [(0, .ref 0), (1, .int x1), (2, .int x2)] []) (hf : F10_fieldsLine_b59 z x1 c_read c_tape c_size c_from c_next c_token c_value c_fault c_number k15 = some v) : xV (j10_fieldsLine) X 0 0 (hM c_thrown c_told c_read c_many c_eights c_gains c_notes c_seen c_turns c_drawn c_state c_tape c_taped c_size c_from c_next c_token c_value c_fault c_number c_fives c_isLeft c_wentTimes c_goes c_isLeftLaid c_game c_rows c_columns c_isFound c_bestValue c_bestBelow c_bestShare c_share c_matrix c_system c_shares c_allShares) 59 [(0, .ref 0), (1, .int x1)] [] := by
  unfold F10_fieldsLine_b59 at hf
  refine xV_iload_n 60 rfl dX10_fieldsLine_59 rfl 1 rfl ?_
  refine xV_if_eq (tgt := 94) 63 rfl dX10_fieldsLine_60 (by decide) (fun h60 => ?_) (fun h60 => ?_)
  · have hf := xif_t hf h60
    exact T10_fieldsLine_b94 hX hk15 hf
  · have hf := xif_f hf h60
    refine xV_aload_n 64 rfl dX10_fieldsLine_63 rfl 0 rfl ?_
    refine xV_get (v := .ref 2) 67 rfl dX10_fieldsLine_64 f10_21 rfl rfl ?_
    refine xV_iconst 68 rfl dX10_fieldsLine_67 xk_i1 ?_
    refine xV_aload_n 69 rfl dX10_fieldsLine_68 rfl 0 rfl ?_
    refine xV_get (v := .ref 2) 72 rfl dX10_fieldsLine_69 f10_21 rfl rfl ?_
    refine xV_iconst 73 rfl dX10_fieldsLine_72 xk_i0 ?_
    refine xV_iaload 74 rfl dX10_fieldsLine_73 rfl xk_in0_56 xk_j0 ?_
    refine xV_iadd 75 rfl dX10_fieldsLine_74 ?_
    refine xV_aload_n 76 rfl dX10_fieldsLine_75 rfl 0 rfl ?_
    refine xV_get (v := .int c_number) 79 rfl dX10_fieldsLine_76 f10_153 rfl rfl ?_
    obtain ⟨hg79, hf⟩ := xg_s hf
    refine xV_iastore (h' := (hM c_thrown c_told (upd c_read (xn ((1 : Int32) + (c_read 0))) c_number) c_many c_eights c_gains c_notes c_seen c_turns c_drawn c_state c_tape c_taped c_size c_from c_next c_token c_value c_fault c_number c_fives c_isLeft c_wentTimes c_goes c_isLeftLaid c_game c_rows c_columns c_isFound c_bestValue c_bestBelow c_bestShare c_share c_matrix c_system c_shares c_allShares)) 80 rfl dX10_fieldsLine_79 rfl (xin_ok hg79) rfl rfl ?_
    refine xV_aload_n 81 rfl dX10_fieldsLine_80 rfl 0 rfl ?_
    refine xV_get (v := .ref 2) 84 rfl dX10_fieldsLine_81 f10_21 rfl rfl ?_
    refine xV_iconst 85 rfl dX10_fieldsLine_84 xk_i0 ?_
    refine xV_dup2 86 rfl dX10_fieldsLine_85 rfl rfl ?_
    refine xV_iaload 87 rfl dX10_fieldsLine_86 rfl xk_in0_56 xk_j0 ?_
    refine xV_iconst 88 rfl dX10_fieldsLine_87 xk_i1 ?_
    refine xV_iadd 89 rfl dX10_fieldsLine_88 ?_
    refine xV_iastore (h' := (hM c_thrown c_told (upd (upd c_read (xn ((1 : Int32) + (c_read 0))) c_number) 0 (((upd c_read (xn ((1 : Int32) + (c_read 0))) c_number) 0) + (1 : Int32))) c_many c_eights c_gains c_notes c_seen c_turns c_drawn c_state c_tape c_taped c_size c_from c_next c_token c_value c_fault c_number c_fives c_isLeft c_wentTimes c_goes c_isLeftLaid c_game c_rows c_columns c_isFound c_bestValue c_bestBelow c_bestShare c_share c_matrix c_system c_shares c_allShares)) 90 rfl dX10_fieldsLine_89 rfl xk_in0_56 xk_j0 rfl ?_
    refine xV_aload_n 91 rfl dX10_fieldsLine_90 rfl 0 rfl ?_
    obtain ⟨v91, hv91, hf⟩ := xb_s hf
    refine xV_same (rest := []) 94 rfl dX10_fieldsLine_91 rfl (C10_go X.1.2.1 hv91) m10_go v10_go k10_160 rfl rfl rfl rfl rfl (Nat.le_of_ble_eq_true rfl) (Nat.le_of_ble_eq_true rfl) (Nat.le_of_ble_eq_true rfl) ⟨Nat.le_refl _, Nat.le_refl _⟩ ?_
    show xV (j10_fieldsLine) X 0 0 (hM c_thrown c_told (upd (upd c_read (xn ((1 : Int32) + (c_read 0))) c_number) 0 (((upd c_read (xn ((1 : Int32) + (c_read 0))) c_number) 0) + (1 : Int32))) c_many c_eights c_gains c_notes c_seen c_turns c_drawn c_state c_tape c_taped c_size v91.1 v91.2.1 v91.2.2.1 v91.2.2.2 c_fault c_number c_fives c_isLeft c_wentTimes c_goes c_isLeftLaid c_game c_rows c_columns c_isFound c_bestValue c_bestBelow c_bestShare c_share c_matrix c_system c_shares c_allShares) 94 [(0, .ref 0), (1, .int x1)] []
    exact T10_fieldsLine_b94 hX hk15 hf
def F10_fieldsLine_b15 (z : Nat) (w : Nat) (x1 : Int32) (x2 : Int32) (c_read : (Nat → Int32)) (c_tape : (Nat → Int32)) (c_size : Int32) (c_from : Int32) (c_next : Int32) (c_token : Int32) (c_value : Int32) (c_fault : Int32) (c_number : Int32) : Option (Int32 × (Nat → Int32) × Int32 × Int32 × Int32 × Int32 × Int32 × Int32) := match w with
  | 0 => none
  | w + 1 => if x1 = 0 then (F10_fieldsLine_b111 z x1 c_read c_tape c_size c_from c_next c_token c_value c_fault c_number) else (if x2 = 0 then (F10_fieldsLine_b111 z x1 c_read c_tape c_size c_from c_next c_token c_value c_fault c_number) else ((F10_worths z c_read).bind (fun v31 => (F10_isNumber (1 : Int32) ((8 : Int32) - v31) c_from c_token c_value c_fault c_number).bind (fun v35 => if v35.1 = 0 then (F10_fieldsLine_b59 z v35.1 c_read c_tape c_size c_from c_next c_token c_value v35.2.1 v35.2.2 (fun q0 q1 q2 q3 q4 q5 q6 q7 q8 q9 q10 => F10_fieldsLine_b15 z w q0 q1 q2 q3 q4 q5 q6 q7 q8 q9 q10)) else (if (c_read 0) = (4 : Int32) then ((F10_bad (4 : Int32) c_from v35.2.1).bind (fun v55 => F10_fieldsLine_b59 z v55.1 c_read c_tape c_size c_from c_next c_token c_value v55.2 v35.2.2 (fun q0 q1 q2 q3 q4 q5 q6 q7 q8 q9 q10 => F10_fieldsLine_b15 z w q0 q1 q2 q3 q4 q5 q6 q7 q8 q9 q10))) else (F10_fieldsLine_b59 z v35.1 c_read c_tape c_size c_from c_next c_token c_value v35.2.1 v35.2.2 (fun q0 q1 q2 q3 q4 q5 q6 q7 q8 q9 q10 => F10_fieldsLine_b15 z w q0 q1 q2 q3 q4 q5 q6 q7 q8 q9 q10)))))))
theorem T10_fieldsLine_b15 {X : xX} {c_thrown : Int32} {c_told : (Nat → Int32)} {c_many : (Nat → Int32)} {c_eights : (Nat → Int32)} {c_gains : (Nat → Int32)} {c_notes : (Nat → Int32)} {c_seen : (Nat → Int32)} {c_turns : (Nat → Int32)} {c_drawn : (Nat → Int32)} {c_state : Int32} {c_tape : (Nat → Int32)} {c_taped : Int32} {c_size : Int32} {c_fives : (Nat → Int32)} {c_isLeft : (Nat → Int32)} {c_wentTimes : Int32} {c_goes : (Nat → Int32)} {c_isLeftLaid : Int32} {c_game : (Nat → Int32)} {c_rows : Int32} {c_columns : Int32} {c_isFound : Int32} {c_bestValue : Int64} {c_bestBelow : Int64} {c_bestShare : (Nat → Int64)} {c_share : (Nat → Int64)} {c_matrix : (Nat → Int64)} {c_system : (Nat → Int64)} {c_shares : (Nat → Int32)} {c_allShares : Int32} {z : Nat} {v : Int32 × (Nat → Int32) × Int32 × Int32 × Int32 × Int32 × Int32 × Int32} (hX : xIs (j10_fieldsLine) X ((some .boolean)) (some (.int v.1)) (hM c_thrown c_told v.2.1 c_many c_eights c_gains c_notes c_seen c_turns c_drawn c_state c_tape c_taped c_size v.2.2.1 v.2.2.2.1 v.2.2.2.2.1 v.2.2.2.2.2.1 v.2.2.2.2.2.2.1 v.2.2.2.2.2.2.2 c_fives c_isLeft c_wentTimes c_goes c_isLeftLaid c_game c_rows c_columns c_isFound c_bestValue c_bestBelow c_bestShare c_share c_matrix c_system c_shares c_allShares)) : ∀ (w : Nat) {x1 : Int32} {x2 : Int32} {c_read : (Nat → Int32)} {c_from : Int32} {c_next : Int32} {c_token : Int32} {c_value : Int32} {c_fault : Int32} {c_number : Int32}, F10_fieldsLine_b15 z w x1 x2 c_read c_tape c_size c_from c_next c_token c_value c_fault c_number = some v → xV (j10_fieldsLine) X 0 0 (hM c_thrown c_told c_read c_many c_eights c_gains c_notes c_seen c_turns c_drawn c_state c_tape c_taped c_size c_from c_next c_token c_value c_fault c_number c_fives c_isLeft c_wentTimes c_goes c_isLeftLaid c_game c_rows c_columns c_isFound c_bestValue c_bestBelow c_bestShare c_share c_matrix c_system c_shares c_allShares) 15 [(0, .ref 0), (1, .int x1), (2, .int x2)] [] := by
  intro w
  induction w with
  | zero => intro x1 x2 c_read c_from c_next c_token c_value c_fault c_number hf; cases hf
  | succ w ih =>
    intro x1 x2 c_read c_from c_next c_token c_value c_fault c_number hf
    unfold F10_fieldsLine_b15 at hf
    refine xV_iload_n 16 rfl dX10_fieldsLine_15 rfl 1 rfl ?_
    refine xV_if_eq (tgt := 111) 19 rfl dX10_fieldsLine_16 (by decide) (fun h16 => ?_) (fun h16 => ?_)
    · have hf := xif_t hf h16
      refine xV_sub [0, 1] rfl ?_
      exact T10_fieldsLine_b111 hX hf
    · have hf := xif_f hf h16
      refine xV_iload_n 20 rfl dX10_fieldsLine_19 rfl 2 rfl ?_
      refine xV_if_eq (tgt := 111) 23 rfl dX10_fieldsLine_20 (by decide) (fun h20 => ?_) (fun h20 => ?_)
      · have hf := xif_t hf h20
        refine xV_sub [0, 1] rfl ?_
        exact T10_fieldsLine_b111 hX hf
      · have hf := xif_f hf h20
        refine xV_aload_n 24 rfl dX10_fieldsLine_23 rfl 0 rfl ?_
        refine xV_iconst 25 rfl dX10_fieldsLine_24 xk_i1 ?_
        refine xV_bipush 27 rfl dX10_fieldsLine_25 xk_b8 ?_
        refine xV_aload_n 28 rfl dX10_fieldsLine_27 rfl 0 rfl ?_
        refine xV_get (v := .ref 2) 31 rfl dX10_fieldsLine_28 f10_21 rfl rfl ?_
        obtain ⟨v31, hv31, hf⟩ := xb_s hf
        refine xV_st1 (h' := (hM c_thrown c_told c_read c_many c_eights c_gains c_notes c_seen c_turns c_drawn c_state c_tape c_taped c_size c_from c_next c_token c_value c_fault c_number c_fives c_isLeft c_wentTimes c_goes c_isLeftLaid c_game c_rows c_columns c_isFound c_bestValue c_bestBelow c_bestShare c_share c_matrix c_system c_shares c_allShares)) (rest := [.int (8 : Int32), .int (1 : Int32), .ref 0]) 34 rfl dX10_fieldsLine_31 rfl (C10_worths X.1.2.1 hv31) m10_worths s10_worths k10_163 rfl rfl rfl rfl rfl rfl (Nat.le_of_ble_eq_true rfl) (Nat.le_of_ble_eq_true rfl) (Nat.le_of_ble_eq_true rfl) ⟨Nat.le_refl _, Nat.le_refl _⟩ ?_
        show xV (j10_fieldsLine) X 0 0 (hM c_thrown c_told c_read c_many c_eights c_gains c_notes c_seen c_turns c_drawn c_state c_tape c_taped c_size c_from c_next c_token c_value c_fault c_number c_fives c_isLeft c_wentTimes c_goes c_isLeftLaid c_game c_rows c_columns c_isFound c_bestValue c_bestBelow c_bestShare c_share c_matrix c_system c_shares c_allShares) 34 [(0, .ref 0), (1, .int x1), (2, .int x2)] [.int v31, .int (8 : Int32), .int (1 : Int32), .ref 0]
        refine xV_isub 35 rfl dX10_fieldsLine_34 ?_
        obtain ⟨v35, hv35, hf⟩ := xb_s hf
        refine xV_same (rest := []) 38 rfl dX10_fieldsLine_35 rfl (C10_isNumber X.1.2.1 hv35) m10_isNumber v10_isNumber k10_156 rfl rfl rfl rfl rfl (Nat.le_of_ble_eq_true rfl) (Nat.le_of_ble_eq_true rfl) (Nat.le_of_ble_eq_true rfl) ⟨Nat.le_refl _, Nat.le_refl _⟩ ?_
        show xV (j10_fieldsLine) X 0 0 (hM c_thrown c_told c_read c_many c_eights c_gains c_notes c_seen c_turns c_drawn c_state c_tape c_taped c_size c_from c_next c_token c_value v35.2.1 v35.2.2 c_fives c_isLeft c_wentTimes c_goes c_isLeftLaid c_game c_rows c_columns c_isFound c_bestValue c_bestBelow c_bestShare c_share c_matrix c_system c_shares c_allShares) 38 [(0, .ref 0), (1, .int x1), (2, .int x2)] [.int v35.1]
        refine xV_istore_n (L' := [(1, .int v35.1), (0, .ref 0), (2, .int x2)]) 39 rfl dX10_fieldsLine_38 rfl (xlt rfl) rfl ?_
        refine xV_iload_n 40 rfl dX10_fieldsLine_39 rfl 0 rfl ?_
        refine xV_if_eq (tgt := 59) 43 rfl dX10_fieldsLine_40 (by decide) (fun h40 => ?_) (fun h40 => ?_)
        · have hf := xif_t hf h40
          refine xV_sub [1, 0] rfl ?_
          exact T10_fieldsLine_b59 hX (fun {_ _ _ _ _ _ _ _ _} hq => ih hq) hf
        · have hf := xif_f hf h40
          refine xV_aload_n 44 rfl dX10_fieldsLine_43 rfl 1 rfl ?_
          refine xV_get (v := .ref 2) 47 rfl dX10_fieldsLine_44 f10_21 rfl rfl ?_
          refine xV_iconst 48 rfl dX10_fieldsLine_47 xk_i0 ?_
          refine xV_iaload 49 rfl dX10_fieldsLine_48 rfl xk_in0_56 xk_j0 ?_
          refine xV_iconst 50 rfl dX10_fieldsLine_49 xk_i4 ?_
          refine xV_icmp_ne (tgt := 59) 53 rfl dX10_fieldsLine_50 (by decide) (fun h50 => ?_) (fun h50 => ?_)
          · have hf := xif_f hf h50
            refine xV_sub [1, 0] rfl ?_
            exact T10_fieldsLine_b59 hX (fun {_ _ _ _ _ _ _ _ _} hq => ih hq) hf
          · have hf := xif_t hf h50
            refine xV_aload_n 54 rfl dX10_fieldsLine_53 rfl 1 rfl ?_
            refine xV_iconst 55 rfl dX10_fieldsLine_54 xk_i4 ?_
            obtain ⟨v55, hv55, hf⟩ := xb_s hf
            refine xV_same (rest := []) 58 rfl dX10_fieldsLine_55 rfl (C10_bad X.1.2.1 hv55) m10_bad v10_bad k10_150 rfl rfl rfl rfl rfl (Nat.le_of_ble_eq_true rfl) (Nat.le_of_ble_eq_true rfl) (Nat.le_of_ble_eq_true rfl) ⟨Nat.le_refl _, Nat.le_refl _⟩ ?_
            show xV (j10_fieldsLine) X 0 0 (hM c_thrown c_told c_read c_many c_eights c_gains c_notes c_seen c_turns c_drawn c_state c_tape c_taped c_size c_from c_next c_token c_value v55.2 v35.2.2 c_fives c_isLeft c_wentTimes c_goes c_isLeftLaid c_game c_rows c_columns c_isFound c_bestValue c_bestBelow c_bestShare c_share c_matrix c_system c_shares c_allShares) 58 [(1, .int v35.1), (0, .ref 0), (2, .int x2)] [.int v55.1]
            refine xV_istore_n (L' := [(1, .int v55.1), (0, .ref 0), (2, .int x2)]) 59 rfl dX10_fieldsLine_58 rfl (xlt rfl) rfl ?_
            refine xV_sub [1, 0] rfl ?_
            exact T10_fieldsLine_b59 hX (fun {_ _ _ _ _ _ _ _ _} hq => ih hq) hf
def F10_fieldsLine (z : Nat) (c_read : (Nat → Int32)) (c_tape : (Nat → Int32)) (c_size : Int32) (c_from : Int32) (c_next : Int32) (c_token : Int32) (c_value : Int32) (c_fault : Int32) (c_number : Int32) : Option (Int32 × (Nat → Int32) × Int32 × Int32 × Int32 × Int32 × Int32 × Int32) :=
  (F10_go z c_tape c_size c_from c_next c_token c_value).bind (fun v1 => F10_fieldsLine_b15 z z (1 : Int32) (1 : Int32) (upd c_read 0 (0 : Int32)) c_tape c_size v1.1 v1.2.1 v1.2.2.1 v1.2.2.2 c_fault c_number)
theorem T10_fieldsLine {X : xX} {z : Nat} {c_read : (Nat → Int32)} {c_tape : (Nat → Int32)} {c_size : Int32} {c_from : Int32} {c_next : Int32} {c_token : Int32} {c_value : Int32} {c_fault : Int32} {c_number : Int32} {c_thrown : Int32} {c_told : (Nat → Int32)} {c_many : (Nat → Int32)} {c_eights : (Nat → Int32)} {c_gains : (Nat → Int32)} {c_notes : (Nat → Int32)} {c_seen : (Nat → Int32)} {c_turns : (Nat → Int32)} {c_drawn : (Nat → Int32)} {c_state : Int32} {c_taped : Int32} {c_fives : (Nat → Int32)} {c_isLeft : (Nat → Int32)} {c_wentTimes : Int32} {c_goes : (Nat → Int32)} {c_isLeftLaid : Int32} {c_game : (Nat → Int32)} {c_rows : Int32} {c_columns : Int32} {c_isFound : Int32} {c_bestValue : Int64} {c_bestBelow : Int64} {c_bestShare : (Nat → Int64)} {c_share : (Nat → Int64)} {c_matrix : (Nat → Int64)} {c_system : (Nat → Int64)} {c_shares : (Nat → Int32)} {c_allShares : Int32} {v : Int32 × (Nat → Int32) × Int32 × Int32 × Int32 × Int32 × Int32 × Int32} (hX : xIs (j10_fieldsLine) X ((some .boolean)) (some (.int v.1)) (hM c_thrown c_told v.2.1 c_many c_eights c_gains c_notes c_seen c_turns c_drawn c_state c_tape c_taped c_size v.2.2.1 v.2.2.2.1 v.2.2.2.2.1 v.2.2.2.2.2.1 v.2.2.2.2.2.2.1 v.2.2.2.2.2.2.2 c_fives c_isLeft c_wentTimes c_goes c_isLeftLaid c_game c_rows c_columns c_isFound c_bestValue c_bestBelow c_bestShare c_share c_matrix c_system c_shares c_allShares)) (hf : F10_fieldsLine z c_read c_tape c_size c_from c_next c_token c_value c_fault c_number = some v) : xV (j10_fieldsLine) X 0 0 (hM c_thrown c_told c_read c_many c_eights c_gains c_notes c_seen c_turns c_drawn c_state c_tape c_taped c_size c_from c_next c_token c_value c_fault c_number c_fives c_isLeft c_wentTimes c_goes c_isLeftLaid c_game c_rows c_columns c_isFound c_bestValue c_bestBelow c_bestShare c_share c_matrix c_system c_shares c_allShares) 0 [(0, .ref 0)] [] := by
  unfold F10_fieldsLine at hf
  refine xV_aload_n 1 rfl dX10_fieldsLine_0 rfl 0 rfl ?_
  obtain ⟨v1, hv1, hf⟩ := xb_s hf
  refine xV_same (rest := []) 4 rfl dX10_fieldsLine_1 rfl (C10_go X.1.2.1 hv1) m10_go v10_go k10_160 rfl rfl rfl rfl rfl (Nat.le_of_ble_eq_true rfl) (Nat.le_of_ble_eq_true rfl) (Nat.le_of_ble_eq_true rfl) ⟨Nat.le_refl _, Nat.le_refl _⟩ ?_
  show xV (j10_fieldsLine) X 0 0 (hM c_thrown c_told c_read c_many c_eights c_gains c_notes c_seen c_turns c_drawn c_state c_tape c_taped c_size v1.1 v1.2.1 v1.2.2.1 v1.2.2.2 c_fault c_number c_fives c_isLeft c_wentTimes c_goes c_isLeftLaid c_game c_rows c_columns c_isFound c_bestValue c_bestBelow c_bestShare c_share c_matrix c_system c_shares c_allShares) 4 [(0, .ref 0)] []
  refine xV_aload_n 5 rfl dX10_fieldsLine_4 rfl 0 rfl ?_
  refine xV_get (v := .ref 2) 8 rfl dX10_fieldsLine_5 f10_21 rfl rfl ?_
  refine xV_iconst 9 rfl dX10_fieldsLine_8 xk_i0 ?_
  refine xV_iconst 10 rfl dX10_fieldsLine_9 xk_i0 ?_
  refine xV_iastore (h' := (hM c_thrown c_told (upd c_read 0 (0 : Int32)) c_many c_eights c_gains c_notes c_seen c_turns c_drawn c_state c_tape c_taped c_size v1.1 v1.2.1 v1.2.2.1 v1.2.2.2 c_fault c_number c_fives c_isLeft c_wentTimes c_goes c_isLeftLaid c_game c_rows c_columns c_isFound c_bestValue c_bestBelow c_bestShare c_share c_matrix c_system c_shares c_allShares)) 11 rfl dX10_fieldsLine_10 rfl xk_in0_56 xk_j0 rfl ?_
  refine xV_iconst 12 rfl dX10_fieldsLine_11 xk_i1 ?_
  refine xV_istore_n (L' := [(1, .int (1 : Int32)), (0, .ref 0)]) 13 rfl dX10_fieldsLine_12 rfl (xlt rfl) rfl ?_
  refine xV_iconst 14 rfl dX10_fieldsLine_13 xk_i1 ?_
  refine xV_istore_n (L' := [(2, .int (1 : Int32)), (1, .int (1 : Int32)), (0, .ref 0)]) 15 rfl dX10_fieldsLine_14 rfl (xlt rfl) rfl ?_
  refine xV_sub [2, 1, 0] rfl ?_
  exact T10_fieldsLine_b15 hX _ hf
theorem C10_fieldsLine (l : Launch) {z : Nat} {c_read : (Nat → Int32)} {c_tape : (Nat → Int32)} {c_size : Int32} {c_from : Int32} {c_next : Int32} {c_token : Int32} {c_value : Int32} {c_fault : Int32} {c_number : Int32} {c_thrown : Int32} {c_told : (Nat → Int32)} {c_many : (Nat → Int32)} {c_eights : (Nat → Int32)} {c_gains : (Nat → Int32)} {c_notes : (Nat → Int32)} {c_seen : (Nat → Int32)} {c_turns : (Nat → Int32)} {c_drawn : (Nat → Int32)} {c_state : Int32} {c_taped : Int32} {c_fives : (Nat → Int32)} {c_isLeft : (Nat → Int32)} {c_wentTimes : Int32} {c_goes : (Nat → Int32)} {c_isLeftLaid : Int32} {c_game : (Nat → Int32)} {c_rows : Int32} {c_columns : Int32} {c_isFound : Int32} {c_bestValue : Int64} {c_bestBelow : Int64} {c_bestShare : (Nat → Int64)} {c_share : (Nat → Int64)} {c_matrix : (Nat → Int64)} {c_system : (Nat → Int64)} {c_shares : (Nat → Int32)} {c_allShares : Int32} {v : Int32 × (Nat → Int32) × Int32 × Int32 × Int32 × Int32 × Int32 × Int32} (hf : F10_fieldsLine z c_read c_tape c_size c_from c_next c_token c_value c_fault c_number = some v) : xCt l yX10_fieldsLine ((some .boolean)) j10_fieldsLine [.ref 0] (hM c_thrown c_told c_read c_many c_eights c_gains c_notes c_seen c_turns c_drawn c_state c_tape c_taped c_size c_from c_next c_token c_value c_fault c_number c_fives c_isLeft c_wentTimes c_goes c_isLeftLaid c_game c_rows c_columns c_isFound c_bestValue c_bestBelow c_bestShare c_share c_matrix c_system c_shares c_allShares) (some (.int v.1)) (hM c_thrown c_told v.2.1 c_many c_eights c_gains c_notes c_seen c_turns c_drawn c_state c_tape c_taped c_size v.2.2.1 v.2.2.2.1 v.2.2.2.2.1 v.2.2.2.2.2.1 v.2.2.2.2.2.2.1 v.2.2.2.2.2.2.2 c_fives c_isLeft c_wentTimes c_goes c_isLeftLaid c_game c_rows c_columns c_isFound c_bestValue c_bestBelow c_bestShare c_share c_matrix c_system c_shares c_allShares) := xCt_of (by decide) rfl (Nat.le_of_ble_eq_true rfl) (fun _ hX => T10_fieldsLine hX hf)
theorem m10_fieldsLine : xMd yX10_fieldsLine RX10 ((some .boolean)) j10_fieldsLine 0 := ⟨List.mem_of_getElem? (i := 437) (by decide +kernel), List.mem_of_getElem? (i := 5) (by decide +kernel), rfl, by decide +kernel⟩
theorem v10_fieldsLine : xMv yX10_fieldsLine RX10 := ⟨List.mem_of_getElem? (i := 435) (by decide +kernel), List.mem_of_getElem? (i := 436) (by decide +kernel)⟩
theorem xk_in5_56 : vp_in (5 : Int32) 56 := xin_ok (by decide)
theorem xk_in6_56 : vp_in (6 : Int32) 56 := xin_ok (by decide)
theorem xk_j6 : (6 : Int32).toNatClampNeg = 6 := by decide
theorem k10_167 : Cond.methodLink RX10 167 yX10_numberIn ∈ wsL_law0 := List.mem_of_getElem? (i := 460) (by decide +kernel)
theorem dX10_forcesLine_0 : decode cX10_forcesLine 0 = .ok (.aload_n 0, 1) := by decide +kernel
theorem dX10_forcesLine_1 : decode cX10_forcesLine 1 = .ok (.invokevirtual 160, 3) := by decide +kernel
theorem dX10_forcesLine_4 : decode cX10_forcesLine 4 = .ok (.aload_n 0, 1) := by decide +kernel
theorem dX10_forcesLine_5 : decode cX10_forcesLine 5 = .ok (.iconst 0, 1) := by decide +kernel
theorem dX10_forcesLine_6 : decode cX10_forcesLine 6 = .ok (.bipush 7, 2) := by decide +kernel
theorem dX10_forcesLine_8 : decode cX10_forcesLine 8 = .ok (.invokevirtual 167, 3) := by decide +kernel
theorem dX10_forcesLine_11 : decode cX10_forcesLine 11 = .ok (.ifCond .ne 5, 3) := by decide +kernel
theorem dX10_forcesLine_14 : decode cX10_forcesLine 14 = .ok (.iconst 0, 1) := by decide +kernel
theorem dX10_forcesLine_15 : decode cX10_forcesLine 15 = .ok (.ireturn, 1) := by decide +kernel
theorem dX10_forcesLine_16 : decode cX10_forcesLine 16 = .ok (.aload_n 0, 1) := by decide +kernel
theorem dX10_forcesLine_17 : decode cX10_forcesLine 17 = .ok (.getfield 21, 3) := by decide +kernel
theorem dX10_forcesLine_20 : decode cX10_forcesLine 20 = .ok (.iconst 5, 1) := by decide +kernel
theorem dX10_forcesLine_21 : decode cX10_forcesLine 21 = .ok (.aload_n 0, 1) := by decide +kernel
theorem dX10_forcesLine_22 : decode cX10_forcesLine 22 = .ok (.getfield 153, 3) := by decide +kernel
theorem dX10_forcesLine_25 : decode cX10_forcesLine 25 = .ok (.iastore, 1) := by decide +kernel
theorem dX10_forcesLine_26 : decode cX10_forcesLine 26 = .ok (.aload_n 0, 1) := by decide +kernel
theorem dX10_forcesLine_27 : decode cX10_forcesLine 27 = .ok (.iconst 0, 1) := by decide +kernel
theorem dX10_forcesLine_28 : decode cX10_forcesLine 28 = .ok (.bipush 7, 2) := by decide +kernel
theorem dX10_forcesLine_30 : decode cX10_forcesLine 30 = .ok (.invokevirtual 167, 3) := by decide +kernel
theorem dX10_forcesLine_33 : decode cX10_forcesLine 33 = .ok (.istore_n 1, 1) := by decide +kernel
theorem dX10_forcesLine_34 : decode cX10_forcesLine 34 = .ok (.aload_n 0, 1) := by decide +kernel
theorem dX10_forcesLine_35 : decode cX10_forcesLine 35 = .ok (.getfield 21, 3) := by decide +kernel
theorem dX10_forcesLine_38 : decode cX10_forcesLine 38 = .ok (.bipush 6, 2) := by decide +kernel
theorem dX10_forcesLine_40 : decode cX10_forcesLine 40 = .ok (.aload_n 0, 1) := by decide +kernel
theorem dX10_forcesLine_41 : decode cX10_forcesLine 41 = .ok (.getfield 153, 3) := by decide +kernel
theorem dX10_forcesLine_44 : decode cX10_forcesLine 44 = .ok (.iastore, 1) := by decide +kernel
theorem dX10_forcesLine_45 : decode cX10_forcesLine 45 = .ok (.aload_n 0, 1) := by decide +kernel
theorem dX10_forcesLine_46 : decode cX10_forcesLine 46 = .ok (.getfield 21, 3) := by decide +kernel
theorem dX10_forcesLine_49 : decode cX10_forcesLine 49 = .ok (.invokestatic 112, 3) := by decide +kernel
theorem dX10_forcesLine_52 : decode cX10_forcesLine 52 = .ok (.iload_n 1, 1) := by decide +kernel
theorem dX10_forcesLine_53 : decode cX10_forcesLine 53 = .ok (.ireturn, 1) := by decide +kernel
abbrev j10_forcesLine : xJ := (cX10_forcesLine, 2, RX10, 4, 0, 0)
def F10_forcesLine (z : Nat) (c_read : (Nat → Int32)) (c_tape : (Nat → Int32)) (c_size : Int32) (c_from : Int32) (c_next : Int32) (c_token : Int32) (c_value : Int32) (c_fault : Int32) (c_number : Int32) : Option (Int32 × (Nat → Int32) × Int32 × Int32 × Int32 × Int32 × Int32 × Int32) :=
  (F10_go z c_tape c_size c_from c_next c_token c_value).bind (fun v1 => (F10_numberIn z (0 : Int32) (7 : Int32) c_tape c_size v1.1 v1.2.1 v1.2.2.1 v1.2.2.2 c_fault c_number).bind (fun v8 => if v8.1 = 0 then (some ((0 : Int32), c_read, v8.2.1, v8.2.2.1, v8.2.2.2.1, v8.2.2.2.2.1, v8.2.2.2.2.2.1, v8.2.2.2.2.2.2)) else ((F10_numberIn z (0 : Int32) (7 : Int32) c_tape c_size v8.2.1 v8.2.2.1 v8.2.2.2.1 v8.2.2.2.2.1 v8.2.2.2.2.2.1 v8.2.2.2.2.2.2).bind (fun v30 => (F10_endsBooks z (upd (upd c_read 5 v8.2.2.2.2.2.2) 6 v30.2.2.2.2.2.2)).bind (fun v49 => xg (xbo v30.1) (some (v30.1, v49, v30.2.1, v30.2.2.1, v30.2.2.2.1, v30.2.2.2.2.1, v30.2.2.2.2.2.1, v30.2.2.2.2.2.2)))))))
theorem T10_forcesLine {X : xX} {z : Nat} {c_read : (Nat → Int32)} {c_tape : (Nat → Int32)} {c_size : Int32} {c_from : Int32} {c_next : Int32} {c_token : Int32} {c_value : Int32} {c_fault : Int32} {c_number : Int32} {c_thrown : Int32} {c_told : (Nat → Int32)} {c_many : (Nat → Int32)} {c_eights : (Nat → Int32)} {c_gains : (Nat → Int32)} {c_notes : (Nat → Int32)} {c_seen : (Nat → Int32)} {c_turns : (Nat → Int32)} {c_drawn : (Nat → Int32)} {c_state : Int32} {c_taped : Int32} {c_fives : (Nat → Int32)} {c_isLeft : (Nat → Int32)} {c_wentTimes : Int32} {c_goes : (Nat → Int32)} {c_isLeftLaid : Int32} {c_game : (Nat → Int32)} {c_rows : Int32} {c_columns : Int32} {c_isFound : Int32} {c_bestValue : Int64} {c_bestBelow : Int64} {c_bestShare : (Nat → Int64)} {c_share : (Nat → Int64)} {c_matrix : (Nat → Int64)} {c_system : (Nat → Int64)} {c_shares : (Nat → Int32)} {c_allShares : Int32} {v : Int32 × (Nat → Int32) × Int32 × Int32 × Int32 × Int32 × Int32 × Int32} (hX : xIs (j10_forcesLine) X ((some .boolean)) (some (.int v.1)) (hM c_thrown c_told v.2.1 c_many c_eights c_gains c_notes c_seen c_turns c_drawn c_state c_tape c_taped c_size v.2.2.1 v.2.2.2.1 v.2.2.2.2.1 v.2.2.2.2.2.1 v.2.2.2.2.2.2.1 v.2.2.2.2.2.2.2 c_fives c_isLeft c_wentTimes c_goes c_isLeftLaid c_game c_rows c_columns c_isFound c_bestValue c_bestBelow c_bestShare c_share c_matrix c_system c_shares c_allShares)) (hf : F10_forcesLine z c_read c_tape c_size c_from c_next c_token c_value c_fault c_number = some v) : xV (j10_forcesLine) X 0 0 (hM c_thrown c_told c_read c_many c_eights c_gains c_notes c_seen c_turns c_drawn c_state c_tape c_taped c_size c_from c_next c_token c_value c_fault c_number c_fives c_isLeft c_wentTimes c_goes c_isLeftLaid c_game c_rows c_columns c_isFound c_bestValue c_bestBelow c_bestShare c_share c_matrix c_system c_shares c_allShares) 0 [(0, .ref 0)] [] := by
  unfold F10_forcesLine at hf
  refine xV_aload_n 1 rfl dX10_forcesLine_0 rfl 0 rfl ?_
  obtain ⟨v1, hv1, hf⟩ := xb_s hf
  refine xV_same (rest := []) 4 rfl dX10_forcesLine_1 rfl (C10_go X.1.2.1 hv1) m10_go v10_go k10_160 rfl rfl rfl rfl rfl (Nat.le_of_ble_eq_true rfl) (Nat.le_of_ble_eq_true rfl) (Nat.le_of_ble_eq_true rfl) ⟨Nat.le_refl _, Nat.le_refl _⟩ ?_
  show xV (j10_forcesLine) X 0 0 (hM c_thrown c_told c_read c_many c_eights c_gains c_notes c_seen c_turns c_drawn c_state c_tape c_taped c_size v1.1 v1.2.1 v1.2.2.1 v1.2.2.2 c_fault c_number c_fives c_isLeft c_wentTimes c_goes c_isLeftLaid c_game c_rows c_columns c_isFound c_bestValue c_bestBelow c_bestShare c_share c_matrix c_system c_shares c_allShares) 4 [(0, .ref 0)] []
  refine xV_aload_n 5 rfl dX10_forcesLine_4 rfl 0 rfl ?_
  refine xV_iconst 6 rfl dX10_forcesLine_5 xk_i0 ?_
  refine xV_bipush 8 rfl dX10_forcesLine_6 xk_b7 ?_
  obtain ⟨v8, hv8, hf⟩ := xb_s hf
  refine xV_same (rest := []) 11 rfl dX10_forcesLine_8 rfl (C10_numberIn X.1.2.1 hv8) m10_numberIn v10_numberIn k10_167 rfl rfl rfl rfl rfl (Nat.le_of_ble_eq_true rfl) (Nat.le_of_ble_eq_true rfl) (Nat.le_of_ble_eq_true rfl) ⟨Nat.le_refl _, Nat.le_refl _⟩ ?_
  show xV (j10_forcesLine) X 0 0 (hM c_thrown c_told c_read c_many c_eights c_gains c_notes c_seen c_turns c_drawn c_state c_tape c_taped c_size v8.2.1 v8.2.2.1 v8.2.2.2.1 v8.2.2.2.2.1 v8.2.2.2.2.2.1 v8.2.2.2.2.2.2 c_fives c_isLeft c_wentTimes c_goes c_isLeftLaid c_game c_rows c_columns c_isFound c_bestValue c_bestBelow c_bestShare c_share c_matrix c_system c_shares c_allShares) 11 [(0, .ref 0)] [.int v8.1]
  refine xV_if_ne (tgt := 16) 14 rfl dX10_forcesLine_11 (by decide) (fun h11 => ?_) (fun h11 => ?_)
  · have hf := xif_f hf h11
    refine xV_aload_n 17 rfl dX10_forcesLine_16 rfl 0 rfl ?_
    refine xV_get (v := .ref 2) 20 rfl dX10_forcesLine_17 f10_21 rfl rfl ?_
    refine xV_iconst 21 rfl dX10_forcesLine_20 xk_i5 ?_
    refine xV_aload_n 22 rfl dX10_forcesLine_21 rfl 0 rfl ?_
    refine xV_get (v := .int v8.2.2.2.2.2.2) 25 rfl dX10_forcesLine_22 f10_153 rfl rfl ?_
    refine xV_iastore (h' := (hM c_thrown c_told (upd c_read 5 v8.2.2.2.2.2.2) c_many c_eights c_gains c_notes c_seen c_turns c_drawn c_state c_tape c_taped c_size v8.2.1 v8.2.2.1 v8.2.2.2.1 v8.2.2.2.2.1 v8.2.2.2.2.2.1 v8.2.2.2.2.2.2 c_fives c_isLeft c_wentTimes c_goes c_isLeftLaid c_game c_rows c_columns c_isFound c_bestValue c_bestBelow c_bestShare c_share c_matrix c_system c_shares c_allShares)) 26 rfl dX10_forcesLine_25 rfl xk_in5_56 xk_j5 rfl ?_
    refine xV_aload_n 27 rfl dX10_forcesLine_26 rfl 0 rfl ?_
    refine xV_iconst 28 rfl dX10_forcesLine_27 xk_i0 ?_
    refine xV_bipush 30 rfl dX10_forcesLine_28 xk_b7 ?_
    obtain ⟨v30, hv30, hf⟩ := xb_s hf
    refine xV_same (rest := []) 33 rfl dX10_forcesLine_30 rfl (C10_numberIn X.1.2.1 hv30) m10_numberIn v10_numberIn k10_167 rfl rfl rfl rfl rfl (Nat.le_of_ble_eq_true rfl) (Nat.le_of_ble_eq_true rfl) (Nat.le_of_ble_eq_true rfl) ⟨Nat.le_refl _, Nat.le_refl _⟩ ?_
    show xV (j10_forcesLine) X 0 0 (hM c_thrown c_told (upd c_read 5 v8.2.2.2.2.2.2) c_many c_eights c_gains c_notes c_seen c_turns c_drawn c_state c_tape c_taped c_size v30.2.1 v30.2.2.1 v30.2.2.2.1 v30.2.2.2.2.1 v30.2.2.2.2.2.1 v30.2.2.2.2.2.2 c_fives c_isLeft c_wentTimes c_goes c_isLeftLaid c_game c_rows c_columns c_isFound c_bestValue c_bestBelow c_bestShare c_share c_matrix c_system c_shares c_allShares) 33 [(0, .ref 0)] [.int v30.1]
    refine xV_istore_n (L' := [(1, .int v30.1), (0, .ref 0)]) 34 rfl dX10_forcesLine_33 rfl (xlt rfl) rfl ?_
    refine xV_aload_n 35 rfl dX10_forcesLine_34 rfl 1 rfl ?_
    refine xV_get (v := .ref 2) 38 rfl dX10_forcesLine_35 f10_21 rfl rfl ?_
    refine xV_bipush 40 rfl dX10_forcesLine_38 xk_b6 ?_
    refine xV_aload_n 41 rfl dX10_forcesLine_40 rfl 1 rfl ?_
    refine xV_get (v := .int v30.2.2.2.2.2.2) 44 rfl dX10_forcesLine_41 f10_153 rfl rfl ?_
    refine xV_iastore (h' := (hM c_thrown c_told (upd (upd c_read 5 v8.2.2.2.2.2.2) 6 v30.2.2.2.2.2.2) c_many c_eights c_gains c_notes c_seen c_turns c_drawn c_state c_tape c_taped c_size v30.2.1 v30.2.2.1 v30.2.2.2.1 v30.2.2.2.2.1 v30.2.2.2.2.2.1 v30.2.2.2.2.2.2 c_fives c_isLeft c_wentTimes c_goes c_isLeftLaid c_game c_rows c_columns c_isFound c_bestValue c_bestBelow c_bestShare c_share c_matrix c_system c_shares c_allShares)) 45 rfl dX10_forcesLine_44 rfl xk_in6_56 xk_j6 rfl ?_
    refine xV_aload_n 46 rfl dX10_forcesLine_45 rfl 1 rfl ?_
    refine xV_get (v := .ref 2) 49 rfl dX10_forcesLine_46 f10_21 rfl rfl ?_
    obtain ⟨v49, hv49, hf⟩ := xb_s hf
    refine xV_st1 (h' := (hM c_thrown c_told v49 c_many c_eights c_gains c_notes c_seen c_turns c_drawn c_state c_tape c_taped c_size v30.2.1 v30.2.2.1 v30.2.2.2.1 v30.2.2.2.2.1 v30.2.2.2.2.2.1 v30.2.2.2.2.2.2 c_fives c_isLeft c_wentTimes c_goes c_isLeftLaid c_game c_rows c_columns c_isFound c_bestValue c_bestBelow c_bestShare c_share c_matrix c_system c_shares c_allShares)) (rest := []) 52 rfl dX10_forcesLine_49 rfl (C10_endsBooks X.1.2.1 hv49) m10_endsBooks s10_endsBooks k10_112 rfl rfl rfl rfl rfl rfl (Nat.le_of_ble_eq_true rfl) (Nat.le_of_ble_eq_true rfl) (Nat.le_of_ble_eq_true rfl) ⟨Nat.le_refl _, Nat.le_refl _⟩ ?_
    show xV (j10_forcesLine) X 0 0 (hM c_thrown c_told v49 c_many c_eights c_gains c_notes c_seen c_turns c_drawn c_state c_tape c_taped c_size v30.2.1 v30.2.2.1 v30.2.2.2.1 v30.2.2.2.2.1 v30.2.2.2.2.2.1 v30.2.2.2.2.2.2 c_fives c_isLeft c_wentTimes c_goes c_isLeftLaid c_game c_rows c_columns c_isFound c_bestValue c_bestBelow c_bestShare c_share c_matrix c_system c_shares c_allShares) 52 [(1, .int v30.1), (0, .ref 0)] []
    refine xV_iload_n 53 rfl dX10_forcesLine_52 rfl 0 rfl ?_
    obtain ⟨hgr, hf⟩ := xg_s hf
    obtain rfl := Option.some.inj hf
    exact xV_iret hX dX10_forcesLine_53 (xbo_ok hgr) (Nat.zero_le _) (Nat.zero_le _)
  · have hf := xif_t hf h11
    refine xV_iconst 15 rfl dX10_forcesLine_14 xk_i0 ?_
    obtain rfl := Option.some.inj hf
    exact xV_iret hX dX10_forcesLine_15 (xbo_ok rfl) (Nat.zero_le _) (Nat.zero_le _)
theorem C10_forcesLine (l : Launch) {z : Nat} {c_read : (Nat → Int32)} {c_tape : (Nat → Int32)} {c_size : Int32} {c_from : Int32} {c_next : Int32} {c_token : Int32} {c_value : Int32} {c_fault : Int32} {c_number : Int32} {c_thrown : Int32} {c_told : (Nat → Int32)} {c_many : (Nat → Int32)} {c_eights : (Nat → Int32)} {c_gains : (Nat → Int32)} {c_notes : (Nat → Int32)} {c_seen : (Nat → Int32)} {c_turns : (Nat → Int32)} {c_drawn : (Nat → Int32)} {c_state : Int32} {c_taped : Int32} {c_fives : (Nat → Int32)} {c_isLeft : (Nat → Int32)} {c_wentTimes : Int32} {c_goes : (Nat → Int32)} {c_isLeftLaid : Int32} {c_game : (Nat → Int32)} {c_rows : Int32} {c_columns : Int32} {c_isFound : Int32} {c_bestValue : Int64} {c_bestBelow : Int64} {c_bestShare : (Nat → Int64)} {c_share : (Nat → Int64)} {c_matrix : (Nat → Int64)} {c_system : (Nat → Int64)} {c_shares : (Nat → Int32)} {c_allShares : Int32} {v : Int32 × (Nat → Int32) × Int32 × Int32 × Int32 × Int32 × Int32 × Int32} (hf : F10_forcesLine z c_read c_tape c_size c_from c_next c_token c_value c_fault c_number = some v) : xCt l yX10_forcesLine ((some .boolean)) j10_forcesLine [.ref 0] (hM c_thrown c_told c_read c_many c_eights c_gains c_notes c_seen c_turns c_drawn c_state c_tape c_taped c_size c_from c_next c_token c_value c_fault c_number c_fives c_isLeft c_wentTimes c_goes c_isLeftLaid c_game c_rows c_columns c_isFound c_bestValue c_bestBelow c_bestShare c_share c_matrix c_system c_shares c_allShares) (some (.int v.1)) (hM c_thrown c_told v.2.1 c_many c_eights c_gains c_notes c_seen c_turns c_drawn c_state c_tape c_taped c_size v.2.2.1 v.2.2.2.1 v.2.2.2.2.1 v.2.2.2.2.2.1 v.2.2.2.2.2.2.1 v.2.2.2.2.2.2.2 c_fives c_isLeft c_wentTimes c_goes c_isLeftLaid c_game c_rows c_columns c_isFound c_bestValue c_bestBelow c_bestShare c_share c_matrix c_system c_shares c_allShares) := xCt_of (by decide) rfl (Nat.le_of_ble_eq_true rfl) (fun _ hX => T10_forcesLine hX hf)
theorem m10_forcesLine : xMd yX10_forcesLine RX10 ((some .boolean)) j10_forcesLine 0 := ⟨List.mem_of_getElem? (i := 459) (by decide +kernel), List.mem_of_getElem? (i := 5) (by decide +kernel), rfl, by decide +kernel⟩
theorem v10_forcesLine : xMv yX10_forcesLine RX10 := ⟨List.mem_of_getElem? (i := 457) (by decide +kernel), List.mem_of_getElem? (i := 458) (by decide +kernel)⟩
theorem dX10_tiesLine_0 : decode cX10_tiesLine 0 = .ok (.aload_n 0, 1) := by decide +kernel
theorem dX10_tiesLine_1 : decode cX10_tiesLine 1 = .ok (.invokevirtual 160, 3) := by decide +kernel
theorem dX10_tiesLine_4 : decode cX10_tiesLine 4 = .ok (.aload_n 0, 1) := by decide +kernel
theorem dX10_tiesLine_5 : decode cX10_tiesLine 5 = .ok (.iconst 0, 1) := by decide +kernel
theorem dX10_tiesLine_6 : decode cX10_tiesLine 6 = .ok (.iconst 2, 1) := by decide +kernel
theorem dX10_tiesLine_7 : decode cX10_tiesLine 7 = .ok (.invokevirtual 167, 3) := by decide +kernel
theorem dX10_tiesLine_10 : decode cX10_tiesLine 10 = .ok (.istore_n 1, 1) := by decide +kernel
theorem dX10_tiesLine_11 : decode cX10_tiesLine 11 = .ok (.aload_n 0, 1) := by decide +kernel
theorem dX10_tiesLine_12 : decode cX10_tiesLine 12 = .ok (.getfield 21, 3) := by decide +kernel
theorem dX10_tiesLine_15 : decode cX10_tiesLine 15 = .ok (.bipush 7, 2) := by decide +kernel
theorem dX10_tiesLine_17 : decode cX10_tiesLine 17 = .ok (.aload_n 0, 1) := by decide +kernel
theorem dX10_tiesLine_18 : decode cX10_tiesLine 18 = .ok (.getfield 153, 3) := by decide +kernel
theorem dX10_tiesLine_21 : decode cX10_tiesLine 21 = .ok (.iastore, 1) := by decide +kernel
theorem dX10_tiesLine_22 : decode cX10_tiesLine 22 = .ok (.iload_n 1, 1) := by decide +kernel
theorem dX10_tiesLine_23 : decode cX10_tiesLine 23 = .ok (.ireturn, 1) := by decide +kernel
abbrev j10_tiesLine : xJ := (cX10_tiesLine, 2, RX10, 4, 0, 0)
def F10_tiesLine (z : Nat) (c_read : (Nat → Int32)) (c_tape : (Nat → Int32)) (c_size : Int32) (c_from : Int32) (c_next : Int32) (c_token : Int32) (c_value : Int32) (c_fault : Int32) (c_number : Int32) : Option (Int32 × (Nat → Int32) × Int32 × Int32 × Int32 × Int32 × Int32 × Int32) :=
  (F10_go z c_tape c_size c_from c_next c_token c_value).bind (fun v1 => (F10_numberIn z (0 : Int32) (2 : Int32) c_tape c_size v1.1 v1.2.1 v1.2.2.1 v1.2.2.2 c_fault c_number).bind (fun v7 => xg (xbo v7.1) (some (v7.1, (upd c_read 7 v7.2.2.2.2.2.2), v7.2.1, v7.2.2.1, v7.2.2.2.1, v7.2.2.2.2.1, v7.2.2.2.2.2.1, v7.2.2.2.2.2.2))))
theorem T10_tiesLine {X : xX} {z : Nat} {c_read : (Nat → Int32)} {c_tape : (Nat → Int32)} {c_size : Int32} {c_from : Int32} {c_next : Int32} {c_token : Int32} {c_value : Int32} {c_fault : Int32} {c_number : Int32} {c_thrown : Int32} {c_told : (Nat → Int32)} {c_many : (Nat → Int32)} {c_eights : (Nat → Int32)} {c_gains : (Nat → Int32)} {c_notes : (Nat → Int32)} {c_seen : (Nat → Int32)} {c_turns : (Nat → Int32)} {c_drawn : (Nat → Int32)} {c_state : Int32} {c_taped : Int32} {c_fives : (Nat → Int32)} {c_isLeft : (Nat → Int32)} {c_wentTimes : Int32} {c_goes : (Nat → Int32)} {c_isLeftLaid : Int32} {c_game : (Nat → Int32)} {c_rows : Int32} {c_columns : Int32} {c_isFound : Int32} {c_bestValue : Int64} {c_bestBelow : Int64} {c_bestShare : (Nat → Int64)} {c_share : (Nat → Int64)} {c_matrix : (Nat → Int64)} {c_system : (Nat → Int64)} {c_shares : (Nat → Int32)} {c_allShares : Int32} {v : Int32 × (Nat → Int32) × Int32 × Int32 × Int32 × Int32 × Int32 × Int32} (hX : xIs (j10_tiesLine) X ((some .boolean)) (some (.int v.1)) (hM c_thrown c_told v.2.1 c_many c_eights c_gains c_notes c_seen c_turns c_drawn c_state c_tape c_taped c_size v.2.2.1 v.2.2.2.1 v.2.2.2.2.1 v.2.2.2.2.2.1 v.2.2.2.2.2.2.1 v.2.2.2.2.2.2.2 c_fives c_isLeft c_wentTimes c_goes c_isLeftLaid c_game c_rows c_columns c_isFound c_bestValue c_bestBelow c_bestShare c_share c_matrix c_system c_shares c_allShares)) (hf : F10_tiesLine z c_read c_tape c_size c_from c_next c_token c_value c_fault c_number = some v) : xV (j10_tiesLine) X 0 0 (hM c_thrown c_told c_read c_many c_eights c_gains c_notes c_seen c_turns c_drawn c_state c_tape c_taped c_size c_from c_next c_token c_value c_fault c_number c_fives c_isLeft c_wentTimes c_goes c_isLeftLaid c_game c_rows c_columns c_isFound c_bestValue c_bestBelow c_bestShare c_share c_matrix c_system c_shares c_allShares) 0 [(0, .ref 0)] [] := by
  unfold F10_tiesLine at hf
  refine xV_aload_n 1 rfl dX10_tiesLine_0 rfl 0 rfl ?_
  obtain ⟨v1, hv1, hf⟩ := xb_s hf
  refine xV_same (rest := []) 4 rfl dX10_tiesLine_1 rfl (C10_go X.1.2.1 hv1) m10_go v10_go k10_160 rfl rfl rfl rfl rfl (Nat.le_of_ble_eq_true rfl) (Nat.le_of_ble_eq_true rfl) (Nat.le_of_ble_eq_true rfl) ⟨Nat.le_refl _, Nat.le_refl _⟩ ?_
  show xV (j10_tiesLine) X 0 0 (hM c_thrown c_told c_read c_many c_eights c_gains c_notes c_seen c_turns c_drawn c_state c_tape c_taped c_size v1.1 v1.2.1 v1.2.2.1 v1.2.2.2 c_fault c_number c_fives c_isLeft c_wentTimes c_goes c_isLeftLaid c_game c_rows c_columns c_isFound c_bestValue c_bestBelow c_bestShare c_share c_matrix c_system c_shares c_allShares) 4 [(0, .ref 0)] []
  refine xV_aload_n 5 rfl dX10_tiesLine_4 rfl 0 rfl ?_
  refine xV_iconst 6 rfl dX10_tiesLine_5 xk_i0 ?_
  refine xV_iconst 7 rfl dX10_tiesLine_6 xk_i2 ?_
  obtain ⟨v7, hv7, hf⟩ := xb_s hf
  refine xV_same (rest := []) 10 rfl dX10_tiesLine_7 rfl (C10_numberIn X.1.2.1 hv7) m10_numberIn v10_numberIn k10_167 rfl rfl rfl rfl rfl (Nat.le_of_ble_eq_true rfl) (Nat.le_of_ble_eq_true rfl) (Nat.le_of_ble_eq_true rfl) ⟨Nat.le_refl _, Nat.le_refl _⟩ ?_
  show xV (j10_tiesLine) X 0 0 (hM c_thrown c_told c_read c_many c_eights c_gains c_notes c_seen c_turns c_drawn c_state c_tape c_taped c_size v7.2.1 v7.2.2.1 v7.2.2.2.1 v7.2.2.2.2.1 v7.2.2.2.2.2.1 v7.2.2.2.2.2.2 c_fives c_isLeft c_wentTimes c_goes c_isLeftLaid c_game c_rows c_columns c_isFound c_bestValue c_bestBelow c_bestShare c_share c_matrix c_system c_shares c_allShares) 10 [(0, .ref 0)] [.int v7.1]
  refine xV_istore_n (L' := [(1, .int v7.1), (0, .ref 0)]) 11 rfl dX10_tiesLine_10 rfl (xlt rfl) rfl ?_
  refine xV_aload_n 12 rfl dX10_tiesLine_11 rfl 1 rfl ?_
  refine xV_get (v := .ref 2) 15 rfl dX10_tiesLine_12 f10_21 rfl rfl ?_
  refine xV_bipush 17 rfl dX10_tiesLine_15 xk_b7 ?_
  refine xV_aload_n 18 rfl dX10_tiesLine_17 rfl 1 rfl ?_
  refine xV_get (v := .int v7.2.2.2.2.2.2) 21 rfl dX10_tiesLine_18 f10_153 rfl rfl ?_
  refine xV_iastore (h' := (hM c_thrown c_told (upd c_read 7 v7.2.2.2.2.2.2) c_many c_eights c_gains c_notes c_seen c_turns c_drawn c_state c_tape c_taped c_size v7.2.1 v7.2.2.1 v7.2.2.2.1 v7.2.2.2.2.1 v7.2.2.2.2.2.1 v7.2.2.2.2.2.2 c_fives c_isLeft c_wentTimes c_goes c_isLeftLaid c_game c_rows c_columns c_isFound c_bestValue c_bestBelow c_bestShare c_share c_matrix c_system c_shares c_allShares)) 22 rfl dX10_tiesLine_21 rfl xk_in7_56 xk_j7 rfl ?_
  refine xV_iload_n 23 rfl dX10_tiesLine_22 rfl 0 rfl ?_
  obtain ⟨hgr, hf⟩ := xg_s hf
  obtain rfl := Option.some.inj hf
  exact xV_iret hX dX10_tiesLine_23 (xbo_ok hgr) (Nat.zero_le _) (Nat.zero_le _)
theorem C10_tiesLine (l : Launch) {z : Nat} {c_read : (Nat → Int32)} {c_tape : (Nat → Int32)} {c_size : Int32} {c_from : Int32} {c_next : Int32} {c_token : Int32} {c_value : Int32} {c_fault : Int32} {c_number : Int32} {c_thrown : Int32} {c_told : (Nat → Int32)} {c_many : (Nat → Int32)} {c_eights : (Nat → Int32)} {c_gains : (Nat → Int32)} {c_notes : (Nat → Int32)} {c_seen : (Nat → Int32)} {c_turns : (Nat → Int32)} {c_drawn : (Nat → Int32)} {c_state : Int32} {c_taped : Int32} {c_fives : (Nat → Int32)} {c_isLeft : (Nat → Int32)} {c_wentTimes : Int32} {c_goes : (Nat → Int32)} {c_isLeftLaid : Int32} {c_game : (Nat → Int32)} {c_rows : Int32} {c_columns : Int32} {c_isFound : Int32} {c_bestValue : Int64} {c_bestBelow : Int64} {c_bestShare : (Nat → Int64)} {c_share : (Nat → Int64)} {c_matrix : (Nat → Int64)} {c_system : (Nat → Int64)} {c_shares : (Nat → Int32)} {c_allShares : Int32} {v : Int32 × (Nat → Int32) × Int32 × Int32 × Int32 × Int32 × Int32 × Int32} (hf : F10_tiesLine z c_read c_tape c_size c_from c_next c_token c_value c_fault c_number = some v) : xCt l yX10_tiesLine ((some .boolean)) j10_tiesLine [.ref 0] (hM c_thrown c_told c_read c_many c_eights c_gains c_notes c_seen c_turns c_drawn c_state c_tape c_taped c_size c_from c_next c_token c_value c_fault c_number c_fives c_isLeft c_wentTimes c_goes c_isLeftLaid c_game c_rows c_columns c_isFound c_bestValue c_bestBelow c_bestShare c_share c_matrix c_system c_shares c_allShares) (some (.int v.1)) (hM c_thrown c_told v.2.1 c_many c_eights c_gains c_notes c_seen c_turns c_drawn c_state c_tape c_taped c_size v.2.2.1 v.2.2.2.1 v.2.2.2.2.1 v.2.2.2.2.2.1 v.2.2.2.2.2.2.1 v.2.2.2.2.2.2.2 c_fives c_isLeft c_wentTimes c_goes c_isLeftLaid c_game c_rows c_columns c_isFound c_bestValue c_bestBelow c_bestShare c_share c_matrix c_system c_shares c_allShares) := xCt_of (by decide) rfl (Nat.le_of_ble_eq_true rfl) (fun _ hX => T10_tiesLine hX hf)
theorem m10_tiesLine : xMd yX10_tiesLine RX10 ((some .boolean)) j10_tiesLine 0 := ⟨List.mem_of_getElem? (i := 467) (by decide +kernel), List.mem_of_getElem? (i := 5) (by decide +kernel), rfl, by decide +kernel⟩
theorem v10_tiesLine : xMv yX10_tiesLine RX10 := ⟨List.mem_of_getElem? (i := 465) (by decide +kernel), List.mem_of_getElem? (i := 466) (by decide +kernel)⟩
theorem q10_170 : Jvm.Cond.constant RX10 170 (1000000) ∈ wsL_law0 := List.mem_of_getElem? (i := 480) (by decide +kernel)
theorem dX10_splitHere_0 : decode cX10_splitHere 0 = .ok (.aload_n 0, 1) := by decide +kernel
theorem dX10_splitHere_1 : decode cX10_splitHere 1 = .ok (.getfield 132, 3) := by decide +kernel
theorem dX10_splitHere_4 : decode cX10_splitHere 4 = .ok (.aload_n 0, 1) := by decide +kernel
theorem dX10_splitHere_5 : decode cX10_splitHere 5 = .ok (.getfield 138, 3) := by decide +kernel
theorem dX10_splitHere_8 : decode cX10_splitHere 8 = .ok (.isub, 1) := by decide +kernel
theorem dX10_splitHere_9 : decode cX10_splitHere 9 = .ok (.aload_n 0, 1) := by decide +kernel
theorem dX10_splitHere_10 : decode cX10_splitHere 10 = .ok (.getfield 21, 3) := by decide +kernel
theorem dX10_splitHere_13 : decode cX10_splitHere 13 = .ok (.iconst 0, 1) := by decide +kernel
theorem dX10_splitHere_14 : decode cX10_splitHere 14 = .ok (.iaload, 1) := by decide +kernel
theorem dX10_splitHere_15 : decode cX10_splitHere 15 = .ok (.if_icmp .eq 5, 3) := by decide +kernel
theorem dX10_splitHere_18 : decode cX10_splitHere 18 = .ok (.iconst (-1), 1) := by decide +kernel
theorem dX10_splitHere_19 : decode cX10_splitHere 19 = .ok (.ireturn, 1) := by decide +kernel
theorem dX10_splitHere_20 : decode cX10_splitHere 20 = .ok (.iconst 0, 1) := by decide +kernel
theorem dX10_splitHere_21 : decode cX10_splitHere 21 = .ok (.istore_n 2, 1) := by decide +kernel
theorem dX10_splitHere_22 : decode cX10_splitHere 22 = .ok (.iconst 0, 1) := by decide +kernel
theorem dX10_splitHere_23 : decode cX10_splitHere 23 = .ok (.istore_n 3, 1) := by decide +kernel
theorem dX10_splitHere_24 : decode cX10_splitHere 24 = .ok (.aload_n 0, 1) := by decide +kernel
theorem dX10_splitHere_25 : decode cX10_splitHere 25 = .ok (.getfield 138, 3) := by decide +kernel
theorem dX10_splitHere_28 : decode cX10_splitHere 28 = .ok (.istore 4, 2) := by decide +kernel
theorem dX10_splitHere_30 : decode cX10_splitHere 30 = .ok (.iload 4, 2) := by decide +kernel
theorem dX10_splitHere_32 : decode cX10_splitHere 32 = .ok (.aload_n 0, 1) := by decide +kernel
theorem dX10_splitHere_33 : decode cX10_splitHere 33 = .ok (.getfield 132, 3) := by decide +kernel
theorem dX10_splitHere_36 : decode cX10_splitHere 36 = .ok (.if_icmp .ge 48, 3) := by decide +kernel
theorem dX10_splitHere_39 : decode cX10_splitHere 39 = .ok (.aload_n 0, 1) := by decide +kernel
theorem dX10_splitHere_40 : decode cX10_splitHere 40 = .ok (.iload 4, 2) := by decide +kernel
theorem dX10_splitHere_42 : decode cX10_splitHere 42 = .ok (.invokevirtual 135, 3) := by decide +kernel
theorem dX10_splitHere_45 : decode cX10_splitHere 45 = .ok (.bipush 48, 2) := by decide +kernel
theorem dX10_splitHere_47 : decode cX10_splitHere 47 = .ok (.isub, 1) := by decide +kernel
theorem dX10_splitHere_48 : decode cX10_splitHere 48 = .ok (.istore 5, 2) := by decide +kernel
theorem dX10_splitHere_50 : decode cX10_splitHere 50 = .ok (.iload_n 3, 1) := by decide +kernel
theorem dX10_splitHere_51 : decode cX10_splitHere 51 = .ok (.iload 5, 2) := by decide +kernel
theorem dX10_splitHere_53 : decode cX10_splitHere 53 = .ok (.bipush 7, 2) := by decide +kernel
theorem dX10_splitHere_55 : decode cX10_splitHere 55 = .ok (.if_icmp .le 8, 3) := by decide +kernel
theorem dX10_splitHere_58 : decode cX10_splitHere 58 = .ok (.ldc 170, 2) := by decide +kernel
theorem dX10_splitHere_60 : decode cX10_splitHere 60 = .ok (.goto 5, 3) := by decide +kernel
theorem dX10_splitHere_63 : decode cX10_splitHere 63 = .ok (.iload 5, 2) := by decide +kernel
theorem dX10_splitHere_65 : decode cX10_splitHere 65 = .ok (.iadd, 1) := by decide +kernel
theorem dX10_splitHere_66 : decode cX10_splitHere 66 = .ok (.istore_n 3, 1) := by decide +kernel
theorem dX10_splitHere_67 : decode cX10_splitHere 67 = .ok (.bipush 8, 2) := by decide +kernel
theorem dX10_splitHere_69 : decode cX10_splitHere 69 = .ok (.iload_n 2, 1) := by decide +kernel
theorem dX10_splitHere_70 : decode cX10_splitHere 70 = .ok (.imul, 1) := by decide +kernel
theorem dX10_splitHere_71 : decode cX10_splitHere 71 = .ok (.iload 5, 2) := by decide +kernel
theorem dX10_splitHere_73 : decode cX10_splitHere 73 = .ok (.bipush 7, 2) := by decide +kernel
theorem dX10_splitHere_75 : decode cX10_splitHere 75 = .ok (.iand, 1) := by decide +kernel
theorem dX10_splitHere_76 : decode cX10_splitHere 76 = .ok (.iadd, 1) := by decide +kernel
theorem dX10_splitHere_77 : decode cX10_splitHere 77 = .ok (.istore_n 2, 1) := by decide +kernel
theorem dX10_splitHere_78 : decode cX10_splitHere 78 = .ok (.iinc 4 1, 3) := by decide +kernel
theorem dX10_splitHere_81 : decode cX10_splitHere 81 = .ok (.goto (-51), 3) := by decide +kernel
theorem dX10_splitHere_84 : decode cX10_splitHere 84 = .ok (.iload_n 3, 1) := by decide +kernel
theorem dX10_splitHere_85 : decode cX10_splitHere 85 = .ok (.aload_n 0, 1) := by decide +kernel
theorem dX10_splitHere_86 : decode cX10_splitHere 86 = .ok (.getfield 21, 3) := by decide +kernel
theorem dX10_splitHere_89 : decode cX10_splitHere 89 = .ok (.iconst 5, 1) := by decide +kernel
theorem dX10_splitHere_90 : decode cX10_splitHere 90 = .ok (.iload_n 1, 1) := by decide +kernel
theorem dX10_splitHere_91 : decode cX10_splitHere 91 = .ok (.iadd, 1) := by decide +kernel
theorem dX10_splitHere_92 : decode cX10_splitHere 92 = .ok (.iaload, 1) := by decide +kernel
theorem dX10_splitHere_93 : decode cX10_splitHere 93 = .ok (.if_icmp .ne 7, 3) := by decide +kernel
theorem dX10_splitHere_96 : decode cX10_splitHere 96 = .ok (.iload_n 2, 1) := by decide +kernel
theorem dX10_splitHere_97 : decode cX10_splitHere 97 = .ok (.goto 4, 3) := by decide +kernel
theorem dX10_splitHere_100 : decode cX10_splitHere 100 = .ok (.iconst (-1), 1) := by decide +kernel
theorem dX10_splitHere_101 : decode cX10_splitHere 101 = .ok (.ireturn, 1) := by decide +kernel
abbrev j10_splitHere : xJ := (cX10_splitHere, 6, RX10, 2, 0, 0)
def F10_splitHere_b84 (z : Nat) (x1 : Int32) (x2 : Int32) (x3 : Int32) (c_read : (Nat → Int32)) (c_tape : (Nat → Int32)) (c_size : Int32) (c_from : Int32) (c_next : Int32) : Option (Int32) :=
  xg (xin ((5 : Int32) + x1) 56) (if x3 = (c_read (xn ((5 : Int32) + x1))) then (some (x2)) else (some ((-1 : Int32))))
theorem T10_splitHere_b84 {X : xX} {c_thrown : Int32} {c_told : (Nat → Int32)} {c_many : (Nat → Int32)} {c_eights : (Nat → Int32)} {c_gains : (Nat → Int32)} {c_notes : (Nat → Int32)} {c_seen : (Nat → Int32)} {c_turns : (Nat → Int32)} {c_drawn : (Nat → Int32)} {c_state : Int32} {c_taped : Int32} {c_token : Int32} {c_value : Int32} {c_fault : Int32} {c_number : Int32} {c_fives : (Nat → Int32)} {c_isLeft : (Nat → Int32)} {c_wentTimes : Int32} {c_goes : (Nat → Int32)} {c_isLeftLaid : Int32} {c_game : (Nat → Int32)} {c_rows : Int32} {c_columns : Int32} {c_isFound : Int32} {c_bestValue : Int64} {c_bestBelow : Int64} {c_bestShare : (Nat → Int64)} {c_share : (Nat → Int64)} {c_matrix : (Nat → Int64)} {c_system : (Nat → Int64)} {c_shares : (Nat → Int32)} {c_allShares : Int32} {x1 : Int32} {x2 : Int32} {x3 : Int32} {c_read : (Nat → Int32)} {c_tape : (Nat → Int32)} {c_size : Int32} {c_from : Int32} {c_next : Int32} {z : Nat} {v : Int32} (hX : xIs (j10_splitHere) X ((some .int)) (some (.int v)) (hM c_thrown c_told c_read c_many c_eights c_gains c_notes c_seen c_turns c_drawn c_state c_tape c_taped c_size c_from c_next c_token c_value c_fault c_number c_fives c_isLeft c_wentTimes c_goes c_isLeftLaid c_game c_rows c_columns c_isFound c_bestValue c_bestBelow c_bestShare c_share c_matrix c_system c_shares c_allShares)) (hf : F10_splitHere_b84 z x1 x2 x3 c_read c_tape c_size c_from c_next = some v) : xV (j10_splitHere) X 0 0 (hM c_thrown c_told c_read c_many c_eights c_gains c_notes c_seen c_turns c_drawn c_state c_tape c_taped c_size c_from c_next c_token c_value c_fault c_number c_fives c_isLeft c_wentTimes c_goes c_isLeftLaid c_game c_rows c_columns c_isFound c_bestValue c_bestBelow c_bestShare c_share c_matrix c_system c_shares c_allShares) 84 [(0, .ref 0), (1, .int x1), (2, .int x2), (3, .int x3)] [] := by
  unfold F10_splitHere_b84 at hf
  refine xV_iload_n 85 rfl dX10_splitHere_84 rfl 3 rfl ?_
  refine xV_aload_n 86 rfl dX10_splitHere_85 rfl 0 rfl ?_
  refine xV_get (v := .ref 2) 89 rfl dX10_splitHere_86 f10_21 rfl rfl ?_
  refine xV_iconst 90 rfl dX10_splitHere_89 xk_i5 ?_
  refine xV_iload_n 91 rfl dX10_splitHere_90 rfl 1 rfl ?_
  refine xV_iadd 92 rfl dX10_splitHere_91 ?_
  obtain ⟨hg92, hf⟩ := xg_s hf
  refine xV_iaload 93 rfl dX10_splitHere_92 rfl (xin_ok hg92) rfl ?_
  refine xV_icmp_ne (tgt := 100) 96 rfl dX10_splitHere_93 (by decide) (fun h93 => ?_) (fun h93 => ?_)
  · have hf := xif_f hf h93
    refine xV_iconst 101 rfl dX10_splitHere_100 xk_im1 ?_
    obtain rfl := Option.some.inj hf
    exact xV_iret hX dX10_splitHere_101 rfl (Nat.zero_le _) (Nat.zero_le _)
  · have hf := xif_t hf h93
    refine xV_iload_n 97 rfl dX10_splitHere_96 rfl 2 rfl ?_
    refine xV_goto (tgt := 101) dX10_splitHere_97 (by decide) ?_
    obtain rfl := Option.some.inj hf
    exact xV_iret hX dX10_splitHere_101 rfl (Nat.zero_le _) (Nat.zero_le _)
def F10_splitHere_b65 (z : Nat) (x1 : Int32) (x2 : Int32) (x4 : Int32) (x5 : Int32) (s0 : Int32) (s1 : Int32) (c_read : (Nat → Int32)) (c_tape : (Nat → Int32)) (c_size : Int32) (c_from : Int32) (c_next : Int32) (k30 : Int32 → Int32 → Int32 → Int32 → (Nat → Int32) → (Nat → Int32) → Int32 → Int32 → Int32 → Option (Int32)) : Option (Int32) :=
  k30 x1 (((8 : Int32) * x2) + (x5 &&& (7 : Int32))) (s0 + s1) (x4 + (1 : Int32)) c_read c_tape c_size c_from c_next
theorem T10_splitHere_b65 {X : xX} {c_thrown : Int32} {c_told : (Nat → Int32)} {c_many : (Nat → Int32)} {c_eights : (Nat → Int32)} {c_gains : (Nat → Int32)} {c_notes : (Nat → Int32)} {c_seen : (Nat → Int32)} {c_turns : (Nat → Int32)} {c_drawn : (Nat → Int32)} {c_state : Int32} {c_taped : Int32} {c_token : Int32} {c_value : Int32} {c_fault : Int32} {c_number : Int32} {c_fives : (Nat → Int32)} {c_isLeft : (Nat → Int32)} {c_wentTimes : Int32} {c_goes : (Nat → Int32)} {c_isLeftLaid : Int32} {c_game : (Nat → Int32)} {c_rows : Int32} {c_columns : Int32} {c_isFound : Int32} {c_bestValue : Int64} {c_bestBelow : Int64} {c_bestShare : (Nat → Int64)} {c_share : (Nat → Int64)} {c_matrix : (Nat → Int64)} {c_system : (Nat → Int64)} {c_shares : (Nat → Int32)} {c_allShares : Int32} {x1 : Int32} {x2 : Int32} {x4 : Int32} {x5 : Int32} {s0 : Int32} {s1 : Int32} {c_read : (Nat → Int32)} {c_tape : (Nat → Int32)} {c_size : Int32} {c_from : Int32} {c_next : Int32} {z : Nat} {v : Int32} {k30 : Int32 → Int32 → Int32 → Int32 → (Nat → Int32) → (Nat → Int32) → Int32 → Int32 → Int32 → Option (Int32)} (hX : xIs (j10_splitHere) X ((some .int)) (some (.int v)) (hM c_thrown c_told c_read c_many c_eights c_gains c_notes c_seen c_turns c_drawn c_state c_tape c_taped c_size c_from c_next c_token c_value c_fault c_number c_fives c_isLeft c_wentTimes c_goes c_isLeftLaid c_game c_rows c_columns c_isFound c_bestValue c_bestBelow c_bestShare c_share c_matrix c_system c_shares c_allShares)) (hk30 : ∀ {x1 : Int32} {x2 : Int32} {x3 : Int32} {x4 : Int32}, k30 x1 x2 x3 x4 c_read c_tape c_size c_from c_next = some v → xV (j10_splitHere) X 0 0 (hM c_thrown c_told c_read c_many c_eights c_gains c_notes c_seen c_turns c_drawn c_state c_tape c_taped c_size c_from c_next c_token c_value c_fault c_number c_fives c_isLeft c_wentTimes c_goes c_isLeftLaid c_game c_rows c_columns c_isFound c_bestValue c_bestBelow c_bestShare c_share c_matrix c_system c_shares c_allShares) 30 [(0, .ref 0), (1, .int x1), (2, .int x2), (3, .int x3), (4, .int x4)] []) (hf : F10_splitHere_b65 z x1 x2 x4 x5 s0 s1 c_read c_tape c_size c_from c_next k30 = some v) : xV (j10_splitHere) X 0 0 (hM c_thrown c_told c_read c_many c_eights c_gains c_notes c_seen c_turns c_drawn c_state c_tape c_taped c_size c_from c_next c_token c_value c_fault c_number c_fives c_isLeft c_wentTimes c_goes c_isLeftLaid c_game c_rows c_columns c_isFound c_bestValue c_bestBelow c_bestShare c_share c_matrix c_system c_shares c_allShares) 65 [(0, .ref 0), (1, .int x1), (2, .int x2), (4, .int x4), (5, .int x5)] [.int s1, .int s0] := by
  unfold F10_splitHere_b65 at hf
  refine xV_iadd 66 rfl dX10_splitHere_65 ?_
  refine xV_istore_n (L' := [(3, .int (s0 + s1)), (0, .ref 0), (1, .int x1), (2, .int x2), (4, .int x4), (5, .int x5)]) 67 rfl dX10_splitHere_66 rfl (xlt rfl) rfl ?_
  refine xV_bipush 69 rfl dX10_splitHere_67 xk_b8 ?_
  refine xV_iload_n 70 rfl dX10_splitHere_69 rfl 3 rfl ?_
  refine xV_imul 71 rfl dX10_splitHere_70 ?_
  refine xV_iload 73 rfl dX10_splitHere_71 5 rfl ?_
  refine xV_bipush 75 rfl dX10_splitHere_73 xk_b7 ?_
  refine xV_iand 76 rfl dX10_splitHere_75 ?_
  refine xV_iadd 77 rfl dX10_splitHere_76 ?_
  refine xV_istore_n (L' := [(2, .int (((8 : Int32) * x2) + (x5 &&& (7 : Int32)))), (3, .int (s0 + s1)), (0, .ref 0), (1, .int x1), (4, .int x4), (5, .int x5)]) 78 rfl dX10_splitHere_77 rfl (xlt rfl) rfl ?_
  refine xV_iinc (L' := [(4, .int (x4 + (1 : Int32))), (2, .int (((8 : Int32) * x2) + (x5 &&& (7 : Int32)))), (3, .int (s0 + s1)), (0, .ref 0), (1, .int x1), (5, .int x5)]) 81 rfl dX10_splitHere_78 4 rfl (xk_inc xk_i1) (xlt rfl) rfl ?_
  refine xV_goto (tgt := 30) dX10_splitHere_81 (by decide) ?_
  refine xV_sub [3, 4, 1, 2, 0] rfl ?_
  exact hk30 hf
def F10_splitHere_b30 (z : Nat) (w : Nat) (x1 : Int32) (x2 : Int32) (x3 : Int32) (x4 : Int32) (c_read : (Nat → Int32)) (c_tape : (Nat → Int32)) (c_size : Int32) (c_from : Int32) (c_next : Int32) : Option (Int32) := match w with
  | 0 => none
  | w + 1 => if c_next ≤ x4 then (F10_splitHere_b84 z x1 x2 x3 c_read c_tape c_size c_from c_next) else ((F10_byteAt x4 c_tape c_size).bind (fun v42 => if (v42 - (48 : Int32)) ≤ (7 : Int32) then (F10_splitHere_b65 z x1 x2 x4 (v42 - (48 : Int32)) x3 (v42 - (48 : Int32)) c_read c_tape c_size c_from c_next (fun q0 q1 q2 q3 q4 q5 q6 q7 q8 => F10_splitHere_b30 z w q0 q1 q2 q3 q4 q5 q6 q7 q8)) else (F10_splitHere_b65 z x1 x2 x4 (v42 - (48 : Int32)) x3 (1000000 : Int32) c_read c_tape c_size c_from c_next (fun q0 q1 q2 q3 q4 q5 q6 q7 q8 => F10_splitHere_b30 z w q0 q1 q2 q3 q4 q5 q6 q7 q8))))
theorem T10_splitHere_b30 {X : xX} {c_thrown : Int32} {c_told : (Nat → Int32)} {c_read : (Nat → Int32)} {c_many : (Nat → Int32)} {c_eights : (Nat → Int32)} {c_gains : (Nat → Int32)} {c_notes : (Nat → Int32)} {c_seen : (Nat → Int32)} {c_turns : (Nat → Int32)} {c_drawn : (Nat → Int32)} {c_state : Int32} {c_tape : (Nat → Int32)} {c_taped : Int32} {c_size : Int32} {c_from : Int32} {c_next : Int32} {c_token : Int32} {c_value : Int32} {c_fault : Int32} {c_number : Int32} {c_fives : (Nat → Int32)} {c_isLeft : (Nat → Int32)} {c_wentTimes : Int32} {c_goes : (Nat → Int32)} {c_isLeftLaid : Int32} {c_game : (Nat → Int32)} {c_rows : Int32} {c_columns : Int32} {c_isFound : Int32} {c_bestValue : Int64} {c_bestBelow : Int64} {c_bestShare : (Nat → Int64)} {c_share : (Nat → Int64)} {c_matrix : (Nat → Int64)} {c_system : (Nat → Int64)} {c_shares : (Nat → Int32)} {c_allShares : Int32} {z : Nat} {v : Int32} (hX : xIs (j10_splitHere) X ((some .int)) (some (.int v)) (hM c_thrown c_told c_read c_many c_eights c_gains c_notes c_seen c_turns c_drawn c_state c_tape c_taped c_size c_from c_next c_token c_value c_fault c_number c_fives c_isLeft c_wentTimes c_goes c_isLeftLaid c_game c_rows c_columns c_isFound c_bestValue c_bestBelow c_bestShare c_share c_matrix c_system c_shares c_allShares)) : ∀ (w : Nat) {x1 : Int32} {x2 : Int32} {x3 : Int32} {x4 : Int32}, F10_splitHere_b30 z w x1 x2 x3 x4 c_read c_tape c_size c_from c_next = some v → xV (j10_splitHere) X 0 0 (hM c_thrown c_told c_read c_many c_eights c_gains c_notes c_seen c_turns c_drawn c_state c_tape c_taped c_size c_from c_next c_token c_value c_fault c_number c_fives c_isLeft c_wentTimes c_goes c_isLeftLaid c_game c_rows c_columns c_isFound c_bestValue c_bestBelow c_bestShare c_share c_matrix c_system c_shares c_allShares) 30 [(0, .ref 0), (1, .int x1), (2, .int x2), (3, .int x3), (4, .int x4)] [] := by
  intro w
  induction w with
  | zero => intro x1 x2 x3 x4 hf; cases hf
  | succ w ih =>
    intro x1 x2 x3 x4 hf
    unfold F10_splitHere_b30 at hf
    refine xV_iload 32 rfl dX10_splitHere_30 4 rfl ?_
    refine xV_aload_n 33 rfl dX10_splitHere_32 rfl 0 rfl ?_
    refine xV_get (v := .int c_next) 36 rfl dX10_splitHere_33 f10_132 rfl rfl ?_
    refine xV_icmp_ge (tgt := 84) 39 rfl dX10_splitHere_36 (by decide) (fun h36 => ?_) (fun h36 => ?_)
    · have hf := xif_t hf h36
      refine xV_sub [0, 1, 2, 3] rfl ?_
      exact T10_splitHere_b84 hX hf
    · have hf := xif_f hf h36
      refine xV_aload_n 40 rfl dX10_splitHere_39 rfl 0 rfl ?_
      refine xV_iload 42 rfl dX10_splitHere_40 4 rfl ?_
      obtain ⟨v42, hv42, hf⟩ := xb_s hf
      refine xV_same (rest := []) 45 rfl dX10_splitHere_42 rfl (C10_byteAt X.1.2.1 hv42) m10_byteAt v10_byteAt k10_135 rfl rfl rfl rfl rfl (Nat.le_of_ble_eq_true rfl) (Nat.le_of_ble_eq_true rfl) (Nat.le_of_ble_eq_true rfl) ⟨Nat.le_refl _, Nat.le_refl _⟩ ?_
      show xV (j10_splitHere) X 0 0 (hM c_thrown c_told c_read c_many c_eights c_gains c_notes c_seen c_turns c_drawn c_state c_tape c_taped c_size c_from c_next c_token c_value c_fault c_number c_fives c_isLeft c_wentTimes c_goes c_isLeftLaid c_game c_rows c_columns c_isFound c_bestValue c_bestBelow c_bestShare c_share c_matrix c_system c_shares c_allShares) 45 [(0, .ref 0), (1, .int x1), (2, .int x2), (3, .int x3), (4, .int x4)] [.int v42]
      refine xV_bipush 47 rfl dX10_splitHere_45 xk_b48 ?_
      refine xV_isub 48 rfl dX10_splitHere_47 ?_
      refine xV_istore (L' := [(5, .int (v42 - (48 : Int32))), (0, .ref 0), (1, .int x1), (2, .int x2), (3, .int x3), (4, .int x4)]) 50 rfl dX10_splitHere_48 (xlt rfl) rfl ?_
      refine xV_iload_n 51 rfl dX10_splitHere_50 rfl 4 rfl ?_
      refine xV_iload 53 rfl dX10_splitHere_51 0 rfl ?_
      refine xV_bipush 55 rfl dX10_splitHere_53 xk_b7 ?_
      refine xV_icmp_le (tgt := 63) 58 rfl dX10_splitHere_55 (by decide) (fun h55 => ?_) (fun h55 => ?_)
      · have hf := xif_t hf h55
        refine xV_iload 65 rfl dX10_splitHere_63 0 rfl ?_
        refine xV_sub [1, 2, 3, 5, 0] rfl ?_
        exact T10_splitHere_b65 hX (fun {_ _ _ _} hq => ih hq) hf
      · have hf := xif_f hf h55
        refine xV_ldc 60 rfl dX10_splitHere_58 q10_170 ?_
        refine xV_goto (tgt := 65) dX10_splitHere_60 (by decide) ?_
        refine xV_sub [1, 2, 3, 5, 0] rfl ?_
        exact T10_splitHere_b65 hX (fun {_ _ _ _} hq => ih hq) hf
def F10_splitHere (z : Nat) (x1 : Int32) (c_read : (Nat → Int32)) (c_tape : (Nat → Int32)) (c_size : Int32) (c_from : Int32) (c_next : Int32) : Option (Int32) :=
  if (c_next - c_from) = (c_read 0) then (F10_splitHere_b30 z z x1 (0 : Int32) (0 : Int32) c_from c_read c_tape c_size c_from c_next) else (some ((-1 : Int32)))
theorem T10_splitHere {X : xX} {z : Nat} {x1 : Int32} {c_read : (Nat → Int32)} {c_tape : (Nat → Int32)} {c_size : Int32} {c_from : Int32} {c_next : Int32} {c_thrown : Int32} {c_told : (Nat → Int32)} {c_many : (Nat → Int32)} {c_eights : (Nat → Int32)} {c_gains : (Nat → Int32)} {c_notes : (Nat → Int32)} {c_seen : (Nat → Int32)} {c_turns : (Nat → Int32)} {c_drawn : (Nat → Int32)} {c_state : Int32} {c_taped : Int32} {c_token : Int32} {c_value : Int32} {c_fault : Int32} {c_number : Int32} {c_fives : (Nat → Int32)} {c_isLeft : (Nat → Int32)} {c_wentTimes : Int32} {c_goes : (Nat → Int32)} {c_isLeftLaid : Int32} {c_game : (Nat → Int32)} {c_rows : Int32} {c_columns : Int32} {c_isFound : Int32} {c_bestValue : Int64} {c_bestBelow : Int64} {c_bestShare : (Nat → Int64)} {c_share : (Nat → Int64)} {c_matrix : (Nat → Int64)} {c_system : (Nat → Int64)} {c_shares : (Nat → Int32)} {c_allShares : Int32} {v : Int32} (hX : xIs (j10_splitHere) X ((some .int)) (some (.int v)) (hM c_thrown c_told c_read c_many c_eights c_gains c_notes c_seen c_turns c_drawn c_state c_tape c_taped c_size c_from c_next c_token c_value c_fault c_number c_fives c_isLeft c_wentTimes c_goes c_isLeftLaid c_game c_rows c_columns c_isFound c_bestValue c_bestBelow c_bestShare c_share c_matrix c_system c_shares c_allShares)) (hf : F10_splitHere z x1 c_read c_tape c_size c_from c_next = some v) : xV (j10_splitHere) X 0 0 (hM c_thrown c_told c_read c_many c_eights c_gains c_notes c_seen c_turns c_drawn c_state c_tape c_taped c_size c_from c_next c_token c_value c_fault c_number c_fives c_isLeft c_wentTimes c_goes c_isLeftLaid c_game c_rows c_columns c_isFound c_bestValue c_bestBelow c_bestShare c_share c_matrix c_system c_shares c_allShares) 0 [(0, .ref 0), (1, .int x1)] [] := by
  unfold F10_splitHere at hf
  refine xV_aload_n 1 rfl dX10_splitHere_0 rfl 0 rfl ?_
  refine xV_get (v := .int c_next) 4 rfl dX10_splitHere_1 f10_132 rfl rfl ?_
  refine xV_aload_n 5 rfl dX10_splitHere_4 rfl 0 rfl ?_
  refine xV_get (v := .int c_from) 8 rfl dX10_splitHere_5 f10_138 rfl rfl ?_
  refine xV_isub 9 rfl dX10_splitHere_8 ?_
  refine xV_aload_n 10 rfl dX10_splitHere_9 rfl 0 rfl ?_
  refine xV_get (v := .ref 2) 13 rfl dX10_splitHere_10 f10_21 rfl rfl ?_
  refine xV_iconst 14 rfl dX10_splitHere_13 xk_i0 ?_
  refine xV_iaload 15 rfl dX10_splitHere_14 rfl xk_in0_56 xk_j0 ?_
  refine xV_icmp_eq (tgt := 20) 18 rfl dX10_splitHere_15 (by decide) (fun h15 => ?_) (fun h15 => ?_)
  · have hf := xif_t hf h15
    refine xV_iconst 21 rfl dX10_splitHere_20 xk_i0 ?_
    refine xV_istore_n (L' := [(2, .int (0 : Int32)), (0, .ref 0), (1, .int x1)]) 22 rfl dX10_splitHere_21 rfl (xlt rfl) rfl ?_
    refine xV_iconst 23 rfl dX10_splitHere_22 xk_i0 ?_
    refine xV_istore_n (L' := [(3, .int (0 : Int32)), (2, .int (0 : Int32)), (0, .ref 0), (1, .int x1)]) 24 rfl dX10_splitHere_23 rfl (xlt rfl) rfl ?_
    refine xV_aload_n 25 rfl dX10_splitHere_24 rfl 2 rfl ?_
    refine xV_get (v := .int c_from) 28 rfl dX10_splitHere_25 f10_138 rfl rfl ?_
    refine xV_istore (L' := [(4, .int c_from), (3, .int (0 : Int32)), (2, .int (0 : Int32)), (0, .ref 0), (1, .int x1)]) 30 rfl dX10_splitHere_28 (xlt rfl) rfl ?_
    refine xV_sub [3, 4, 2, 1, 0] rfl ?_
    exact T10_splitHere_b30 hX _ hf
  · have hf := xif_f hf h15
    refine xV_iconst 19 rfl dX10_splitHere_18 xk_im1 ?_
    obtain rfl := Option.some.inj hf
    exact xV_iret hX dX10_splitHere_19 rfl (Nat.zero_le _) (Nat.zero_le _)
theorem C10_splitHere (l : Launch) {z : Nat} {x1 : Int32} {c_read : (Nat → Int32)} {c_tape : (Nat → Int32)} {c_size : Int32} {c_from : Int32} {c_next : Int32} {c_thrown : Int32} {c_told : (Nat → Int32)} {c_many : (Nat → Int32)} {c_eights : (Nat → Int32)} {c_gains : (Nat → Int32)} {c_notes : (Nat → Int32)} {c_seen : (Nat → Int32)} {c_turns : (Nat → Int32)} {c_drawn : (Nat → Int32)} {c_state : Int32} {c_taped : Int32} {c_token : Int32} {c_value : Int32} {c_fault : Int32} {c_number : Int32} {c_fives : (Nat → Int32)} {c_isLeft : (Nat → Int32)} {c_wentTimes : Int32} {c_goes : (Nat → Int32)} {c_isLeftLaid : Int32} {c_game : (Nat → Int32)} {c_rows : Int32} {c_columns : Int32} {c_isFound : Int32} {c_bestValue : Int64} {c_bestBelow : Int64} {c_bestShare : (Nat → Int64)} {c_share : (Nat → Int64)} {c_matrix : (Nat → Int64)} {c_system : (Nat → Int64)} {c_shares : (Nat → Int32)} {c_allShares : Int32} {v : Int32} (hf : F10_splitHere z x1 c_read c_tape c_size c_from c_next = some v) : xCt l yX10_splitHere ((some .int)) j10_splitHere [.ref 0, .int x1] (hM c_thrown c_told c_read c_many c_eights c_gains c_notes c_seen c_turns c_drawn c_state c_tape c_taped c_size c_from c_next c_token c_value c_fault c_number c_fives c_isLeft c_wentTimes c_goes c_isLeftLaid c_game c_rows c_columns c_isFound c_bestValue c_bestBelow c_bestShare c_share c_matrix c_system c_shares c_allShares) (some (.int v)) (hM c_thrown c_told c_read c_many c_eights c_gains c_notes c_seen c_turns c_drawn c_state c_tape c_taped c_size c_from c_next c_token c_value c_fault c_number c_fives c_isLeft c_wentTimes c_goes c_isLeftLaid c_game c_rows c_columns c_isFound c_bestValue c_bestBelow c_bestShare c_share c_matrix c_system c_shares c_allShares) := xCt_of (by decide) rfl (Nat.le_of_ble_eq_true rfl) (fun _ hX => T10_splitHere hX hf)
theorem m10_splitHere : xMd yX10_splitHere RX10 ((some .int)) j10_splitHere 1 := ⟨List.mem_of_getElem? (i := 479) (by decide +kernel), List.mem_of_getElem? (i := 5) (by decide +kernel), rfl, by decide +kernel⟩
theorem v10_splitHere : xMv yX10_splitHere RX10 := ⟨List.mem_of_getElem? (i := 477) (by decide +kernel), List.mem_of_getElem? (i := 478) (by decide +kernel)⟩
theorem dX10_hasRead_0 : decode cX10_hasRead 0 = .ok (.iconst 0, 1) := by decide +kernel
theorem dX10_hasRead_1 : decode cX10_hasRead 1 = .ok (.istore 4, 2) := by decide +kernel
theorem dX10_hasRead_3 : decode cX10_hasRead 3 = .ok (.iconst 0, 1) := by decide +kernel
theorem dX10_hasRead_4 : decode cX10_hasRead 4 = .ok (.istore 5, 2) := by decide +kernel
theorem dX10_hasRead_6 : decode cX10_hasRead 6 = .ok (.iload 5, 2) := by decide +kernel
theorem dX10_hasRead_8 : decode cX10_hasRead 8 = .ok (.iload_n 2, 1) := by decide +kernel
theorem dX10_hasRead_9 : decode cX10_hasRead 9 = .ok (.if_icmp .ge 34, 3) := by decide +kernel
theorem dX10_hasRead_12 : decode cX10_hasRead 12 = .ok (.iload 4, 2) := by decide +kernel
theorem dX10_hasRead_14 : decode cX10_hasRead 14 = .ok (.ifCond .ne 16, 3) := by decide +kernel
theorem dX10_hasRead_17 : decode cX10_hasRead 17 = .ok (.aload_n 0, 1) := by decide +kernel
theorem dX10_hasRead_18 : decode cX10_hasRead 18 = .ok (.getfield 21, 3) := by decide +kernel
theorem dX10_hasRead_21 : decode cX10_hasRead 21 = .ok (.iload_n 1, 1) := by decide +kernel
theorem dX10_hasRead_22 : decode cX10_hasRead 22 = .ok (.iload 5, 2) := by decide +kernel
theorem dX10_hasRead_24 : decode cX10_hasRead 24 = .ok (.iadd, 1) := by decide +kernel
theorem dX10_hasRead_25 : decode cX10_hasRead 25 = .ok (.iaload, 1) := by decide +kernel
theorem dX10_hasRead_26 : decode cX10_hasRead 26 = .ok (.iload_n 3, 1) := by decide +kernel
theorem dX10_hasRead_27 : decode cX10_hasRead 27 = .ok (.if_icmp .ne 7, 3) := by decide +kernel
theorem dX10_hasRead_30 : decode cX10_hasRead 30 = .ok (.iconst 1, 1) := by decide +kernel
theorem dX10_hasRead_31 : decode cX10_hasRead 31 = .ok (.goto 4, 3) := by decide +kernel
theorem dX10_hasRead_34 : decode cX10_hasRead 34 = .ok (.iconst 0, 1) := by decide +kernel
theorem dX10_hasRead_35 : decode cX10_hasRead 35 = .ok (.istore 4, 2) := by decide +kernel
theorem dX10_hasRead_37 : decode cX10_hasRead 37 = .ok (.iinc 5 1, 3) := by decide +kernel
theorem dX10_hasRead_40 : decode cX10_hasRead 40 = .ok (.goto (-34), 3) := by decide +kernel
theorem dX10_hasRead_43 : decode cX10_hasRead 43 = .ok (.iload 4, 2) := by decide +kernel
theorem dX10_hasRead_45 : decode cX10_hasRead 45 = .ok (.ireturn, 1) := by decide +kernel
abbrev j10_hasRead : xJ := (cX10_hasRead, 6, RX10, 1, 0, 0)
def F10_hasRead_b35 (z : Nat) (x1 : Int32) (x2 : Int32) (x3 : Int32) (x5 : Int32) (s0 : Int32) (c_read : (Nat → Int32)) (k6 : Int32 → Int32 → Int32 → Int32 → Int32 → (Nat → Int32) → Option (Int32)) : Option (Int32) :=
  k6 x1 x2 x3 s0 (x5 + (1 : Int32)) c_read
theorem T10_hasRead_b35 {X : xX} {c_thrown : Int32} {c_told : (Nat → Int32)} {c_many : (Nat → Int32)} {c_eights : (Nat → Int32)} {c_gains : (Nat → Int32)} {c_notes : (Nat → Int32)} {c_seen : (Nat → Int32)} {c_turns : (Nat → Int32)} {c_drawn : (Nat → Int32)} {c_state : Int32} {c_tape : (Nat → Int32)} {c_taped : Int32} {c_size : Int32} {c_from : Int32} {c_next : Int32} {c_token : Int32} {c_value : Int32} {c_fault : Int32} {c_number : Int32} {c_fives : (Nat → Int32)} {c_isLeft : (Nat → Int32)} {c_wentTimes : Int32} {c_goes : (Nat → Int32)} {c_isLeftLaid : Int32} {c_game : (Nat → Int32)} {c_rows : Int32} {c_columns : Int32} {c_isFound : Int32} {c_bestValue : Int64} {c_bestBelow : Int64} {c_bestShare : (Nat → Int64)} {c_share : (Nat → Int64)} {c_matrix : (Nat → Int64)} {c_system : (Nat → Int64)} {c_shares : (Nat → Int32)} {c_allShares : Int32} {x1 : Int32} {x2 : Int32} {x3 : Int32} {x5 : Int32} {s0 : Int32} {c_read : (Nat → Int32)} {z : Nat} {v : Int32} {k6 : Int32 → Int32 → Int32 → Int32 → Int32 → (Nat → Int32) → Option (Int32)} (hX : xIs (j10_hasRead) X ((some .boolean)) (some (.int v)) (hM c_thrown c_told c_read c_many c_eights c_gains c_notes c_seen c_turns c_drawn c_state c_tape c_taped c_size c_from c_next c_token c_value c_fault c_number c_fives c_isLeft c_wentTimes c_goes c_isLeftLaid c_game c_rows c_columns c_isFound c_bestValue c_bestBelow c_bestShare c_share c_matrix c_system c_shares c_allShares)) (hk6 : ∀ {x1 : Int32} {x2 : Int32} {x3 : Int32} {x4 : Int32} {x5 : Int32}, k6 x1 x2 x3 x4 x5 c_read = some v → xV (j10_hasRead) X 0 0 (hM c_thrown c_told c_read c_many c_eights c_gains c_notes c_seen c_turns c_drawn c_state c_tape c_taped c_size c_from c_next c_token c_value c_fault c_number c_fives c_isLeft c_wentTimes c_goes c_isLeftLaid c_game c_rows c_columns c_isFound c_bestValue c_bestBelow c_bestShare c_share c_matrix c_system c_shares c_allShares) 6 [(0, .ref 0), (1, .int x1), (2, .int x2), (3, .int x3), (4, .int x4), (5, .int x5)] []) (hf : F10_hasRead_b35 z x1 x2 x3 x5 s0 c_read k6 = some v) : xV (j10_hasRead) X 0 0 (hM c_thrown c_told c_read c_many c_eights c_gains c_notes c_seen c_turns c_drawn c_state c_tape c_taped c_size c_from c_next c_token c_value c_fault c_number c_fives c_isLeft c_wentTimes c_goes c_isLeftLaid c_game c_rows c_columns c_isFound c_bestValue c_bestBelow c_bestShare c_share c_matrix c_system c_shares c_allShares) 35 [(0, .ref 0), (1, .int x1), (2, .int x2), (3, .int x3), (5, .int x5)] [.int s0] := by
  unfold F10_hasRead_b35 at hf
  refine xV_istore (L' := [(4, .int s0), (0, .ref 0), (1, .int x1), (2, .int x2), (3, .int x3), (5, .int x5)]) 37 rfl dX10_hasRead_35 (xlt rfl) rfl ?_
  refine xV_iinc (L' := [(5, .int (x5 + (1 : Int32))), (4, .int s0), (0, .ref 0), (1, .int x1), (2, .int x2), (3, .int x3)]) 40 rfl dX10_hasRead_37 5 rfl (xk_inc xk_i1) (xlt rfl) rfl ?_
  refine xV_goto (tgt := 6) dX10_hasRead_40 (by decide) ?_
  refine xV_sub [2, 3, 4, 5, 1, 0] rfl ?_
  exact hk6 hf
def F10_hasRead_b6 (z : Nat) (w : Nat) (x1 : Int32) (x2 : Int32) (x3 : Int32) (x4 : Int32) (x5 : Int32) (c_read : (Nat → Int32)) : Option (Int32) := match w with
  | 0 => none
  | w + 1 => if x2 ≤ x5 then (xg (xbo x4) (some (x4))) else (if x4 = 0 then (xg (xin (x1 + x5) 56) (if (c_read (xn (x1 + x5))) = x3 then (F10_hasRead_b35 z x1 x2 x3 x5 (1 : Int32) c_read (fun q0 q1 q2 q3 q4 q5 => F10_hasRead_b6 z w q0 q1 q2 q3 q4 q5)) else (F10_hasRead_b35 z x1 x2 x3 x5 (0 : Int32) c_read (fun q0 q1 q2 q3 q4 q5 => F10_hasRead_b6 z w q0 q1 q2 q3 q4 q5)))) else (F10_hasRead_b35 z x1 x2 x3 x5 (1 : Int32) c_read (fun q0 q1 q2 q3 q4 q5 => F10_hasRead_b6 z w q0 q1 q2 q3 q4 q5)))
theorem T10_hasRead_b6 {X : xX} {c_thrown : Int32} {c_told : (Nat → Int32)} {c_read : (Nat → Int32)} {c_many : (Nat → Int32)} {c_eights : (Nat → Int32)} {c_gains : (Nat → Int32)} {c_notes : (Nat → Int32)} {c_seen : (Nat → Int32)} {c_turns : (Nat → Int32)} {c_drawn : (Nat → Int32)} {c_state : Int32} {c_tape : (Nat → Int32)} {c_taped : Int32} {c_size : Int32} {c_from : Int32} {c_next : Int32} {c_token : Int32} {c_value : Int32} {c_fault : Int32} {c_number : Int32} {c_fives : (Nat → Int32)} {c_isLeft : (Nat → Int32)} {c_wentTimes : Int32} {c_goes : (Nat → Int32)} {c_isLeftLaid : Int32} {c_game : (Nat → Int32)} {c_rows : Int32} {c_columns : Int32} {c_isFound : Int32} {c_bestValue : Int64} {c_bestBelow : Int64} {c_bestShare : (Nat → Int64)} {c_share : (Nat → Int64)} {c_matrix : (Nat → Int64)} {c_system : (Nat → Int64)} {c_shares : (Nat → Int32)} {c_allShares : Int32} {z : Nat} {v : Int32} (hX : xIs (j10_hasRead) X ((some .boolean)) (some (.int v)) (hM c_thrown c_told c_read c_many c_eights c_gains c_notes c_seen c_turns c_drawn c_state c_tape c_taped c_size c_from c_next c_token c_value c_fault c_number c_fives c_isLeft c_wentTimes c_goes c_isLeftLaid c_game c_rows c_columns c_isFound c_bestValue c_bestBelow c_bestShare c_share c_matrix c_system c_shares c_allShares)) : ∀ (w : Nat) {x1 : Int32} {x2 : Int32} {x3 : Int32} {x4 : Int32} {x5 : Int32}, F10_hasRead_b6 z w x1 x2 x3 x4 x5 c_read = some v → xV (j10_hasRead) X 0 0 (hM c_thrown c_told c_read c_many c_eights c_gains c_notes c_seen c_turns c_drawn c_state c_tape c_taped c_size c_from c_next c_token c_value c_fault c_number c_fives c_isLeft c_wentTimes c_goes c_isLeftLaid c_game c_rows c_columns c_isFound c_bestValue c_bestBelow c_bestShare c_share c_matrix c_system c_shares c_allShares) 6 [(0, .ref 0), (1, .int x1), (2, .int x2), (3, .int x3), (4, .int x4), (5, .int x5)] [] := by
  intro w
  induction w with
  | zero => intro x1 x2 x3 x4 x5 hf; cases hf
  | succ w ih =>
    intro x1 x2 x3 x4 x5 hf
    unfold F10_hasRead_b6 at hf
    refine xV_iload 8 rfl dX10_hasRead_6 5 rfl ?_
    refine xV_iload_n 9 rfl dX10_hasRead_8 rfl 2 rfl ?_
    refine xV_icmp_ge (tgt := 43) 12 rfl dX10_hasRead_9 (by decide) (fun h9 => ?_) (fun h9 => ?_)
    · have hf := xif_t hf h9
      refine xV_iload 45 rfl dX10_hasRead_43 4 rfl ?_
      obtain ⟨hgr, hf⟩ := xg_s hf
      obtain rfl := Option.some.inj hf
      exact xV_iret hX dX10_hasRead_45 (xbo_ok hgr) (Nat.zero_le _) (Nat.zero_le _)
    · have hf := xif_f hf h9
      refine xV_iload 14 rfl dX10_hasRead_12 4 rfl ?_
      refine xV_if_ne (tgt := 30) 17 rfl dX10_hasRead_14 (by decide) (fun h14 => ?_) (fun h14 => ?_)
      · have hf := xif_f hf h14
        refine xV_iconst 31 rfl dX10_hasRead_30 xk_i1 ?_
        refine xV_goto (tgt := 35) dX10_hasRead_31 (by decide) ?_
        refine xV_sub [0, 1, 2, 3, 5] rfl ?_
        exact T10_hasRead_b35 hX (fun {_ _ _ _ _} hq => ih hq) hf
      · have hf := xif_t hf h14
        refine xV_aload_n 18 rfl dX10_hasRead_17 rfl 0 rfl ?_
        refine xV_get (v := .ref 2) 21 rfl dX10_hasRead_18 f10_21 rfl rfl ?_
        refine xV_iload_n 22 rfl dX10_hasRead_21 rfl 1 rfl ?_
        refine xV_iload 24 rfl dX10_hasRead_22 5 rfl ?_
        refine xV_iadd 25 rfl dX10_hasRead_24 ?_
        obtain ⟨hg25, hf⟩ := xg_s hf
        refine xV_iaload 26 rfl dX10_hasRead_25 rfl (xin_ok hg25) rfl ?_
        refine xV_iload_n 27 rfl dX10_hasRead_26 rfl 3 rfl ?_
        refine xV_icmp_ne (tgt := 34) 30 rfl dX10_hasRead_27 (by decide) (fun h27 => ?_) (fun h27 => ?_)
        · have hf := xif_f hf h27
          refine xV_iconst 35 rfl dX10_hasRead_34 xk_i0 ?_
          refine xV_sub [0, 1, 2, 3, 5] rfl ?_
          exact T10_hasRead_b35 hX (fun {_ _ _ _ _} hq => ih hq) hf
        · have hf := xif_t hf h27
          refine xV_iconst 31 rfl dX10_hasRead_30 xk_i1 ?_
          refine xV_goto (tgt := 35) dX10_hasRead_31 (by decide) ?_
          refine xV_sub [0, 1, 2, 3, 5] rfl ?_
          exact T10_hasRead_b35 hX (fun {_ _ _ _ _} hq => ih hq) hf
def F10_hasRead (z : Nat) (x1 : Int32) (x2 : Int32) (x3 : Int32) (c_read : (Nat → Int32)) : Option (Int32) :=
  F10_hasRead_b6 z z x1 x2 x3 (0 : Int32) (0 : Int32) c_read
theorem T10_hasRead {X : xX} {z : Nat} {x1 : Int32} {x2 : Int32} {x3 : Int32} {c_read : (Nat → Int32)} {c_thrown : Int32} {c_told : (Nat → Int32)} {c_many : (Nat → Int32)} {c_eights : (Nat → Int32)} {c_gains : (Nat → Int32)} {c_notes : (Nat → Int32)} {c_seen : (Nat → Int32)} {c_turns : (Nat → Int32)} {c_drawn : (Nat → Int32)} {c_state : Int32} {c_tape : (Nat → Int32)} {c_taped : Int32} {c_size : Int32} {c_from : Int32} {c_next : Int32} {c_token : Int32} {c_value : Int32} {c_fault : Int32} {c_number : Int32} {c_fives : (Nat → Int32)} {c_isLeft : (Nat → Int32)} {c_wentTimes : Int32} {c_goes : (Nat → Int32)} {c_isLeftLaid : Int32} {c_game : (Nat → Int32)} {c_rows : Int32} {c_columns : Int32} {c_isFound : Int32} {c_bestValue : Int64} {c_bestBelow : Int64} {c_bestShare : (Nat → Int64)} {c_share : (Nat → Int64)} {c_matrix : (Nat → Int64)} {c_system : (Nat → Int64)} {c_shares : (Nat → Int32)} {c_allShares : Int32} {v : Int32} (hX : xIs (j10_hasRead) X ((some .boolean)) (some (.int v)) (hM c_thrown c_told c_read c_many c_eights c_gains c_notes c_seen c_turns c_drawn c_state c_tape c_taped c_size c_from c_next c_token c_value c_fault c_number c_fives c_isLeft c_wentTimes c_goes c_isLeftLaid c_game c_rows c_columns c_isFound c_bestValue c_bestBelow c_bestShare c_share c_matrix c_system c_shares c_allShares)) (hf : F10_hasRead z x1 x2 x3 c_read = some v) : xV (j10_hasRead) X 0 0 (hM c_thrown c_told c_read c_many c_eights c_gains c_notes c_seen c_turns c_drawn c_state c_tape c_taped c_size c_from c_next c_token c_value c_fault c_number c_fives c_isLeft c_wentTimes c_goes c_isLeftLaid c_game c_rows c_columns c_isFound c_bestValue c_bestBelow c_bestShare c_share c_matrix c_system c_shares c_allShares) 0 [(0, .ref 0), (1, .int x1), (2, .int x2), (3, .int x3)] [] := by
  unfold F10_hasRead at hf
  refine xV_iconst 1 rfl dX10_hasRead_0 xk_i0 ?_
  refine xV_istore (L' := [(4, .int (0 : Int32)), (0, .ref 0), (1, .int x1), (2, .int x2), (3, .int x3)]) 3 rfl dX10_hasRead_1 (xlt rfl) rfl ?_
  refine xV_iconst 4 rfl dX10_hasRead_3 xk_i0 ?_
  refine xV_istore (L' := [(5, .int (0 : Int32)), (4, .int (0 : Int32)), (0, .ref 0), (1, .int x1), (2, .int x2), (3, .int x3)]) 6 rfl dX10_hasRead_4 (xlt rfl) rfl ?_
  refine xV_sub [2, 3, 4, 5, 1, 0] rfl ?_
  exact T10_hasRead_b6 hX _ hf
theorem C10_hasRead (l : Launch) {z : Nat} {x1 : Int32} {x2 : Int32} {x3 : Int32} {c_read : (Nat → Int32)} {c_thrown : Int32} {c_told : (Nat → Int32)} {c_many : (Nat → Int32)} {c_eights : (Nat → Int32)} {c_gains : (Nat → Int32)} {c_notes : (Nat → Int32)} {c_seen : (Nat → Int32)} {c_turns : (Nat → Int32)} {c_drawn : (Nat → Int32)} {c_state : Int32} {c_tape : (Nat → Int32)} {c_taped : Int32} {c_size : Int32} {c_from : Int32} {c_next : Int32} {c_token : Int32} {c_value : Int32} {c_fault : Int32} {c_number : Int32} {c_fives : (Nat → Int32)} {c_isLeft : (Nat → Int32)} {c_wentTimes : Int32} {c_goes : (Nat → Int32)} {c_isLeftLaid : Int32} {c_game : (Nat → Int32)} {c_rows : Int32} {c_columns : Int32} {c_isFound : Int32} {c_bestValue : Int64} {c_bestBelow : Int64} {c_bestShare : (Nat → Int64)} {c_share : (Nat → Int64)} {c_matrix : (Nat → Int64)} {c_system : (Nat → Int64)} {c_shares : (Nat → Int32)} {c_allShares : Int32} {v : Int32} (hf : F10_hasRead z x1 x2 x3 c_read = some v) : xCt l yX10_hasRead ((some .boolean)) j10_hasRead [.ref 0, .int x1, .int x2, .int x3] (hM c_thrown c_told c_read c_many c_eights c_gains c_notes c_seen c_turns c_drawn c_state c_tape c_taped c_size c_from c_next c_token c_value c_fault c_number c_fives c_isLeft c_wentTimes c_goes c_isLeftLaid c_game c_rows c_columns c_isFound c_bestValue c_bestBelow c_bestShare c_share c_matrix c_system c_shares c_allShares) (some (.int v)) (hM c_thrown c_told c_read c_many c_eights c_gains c_notes c_seen c_turns c_drawn c_state c_tape c_taped c_size c_from c_next c_token c_value c_fault c_number c_fives c_isLeft c_wentTimes c_goes c_isLeftLaid c_game c_rows c_columns c_isFound c_bestValue c_bestBelow c_bestShare c_share c_matrix c_system c_shares c_allShares) := xCt_of (by decide) rfl (Nat.le_of_ble_eq_true rfl) (fun _ hX => T10_hasRead hX hf)
theorem m10_hasRead : xMd yX10_hasRead RX10 ((some .boolean)) j10_hasRead 3 := ⟨List.mem_of_getElem? (i := 484) (by decide +kernel), List.mem_of_getElem? (i := 5) (by decide +kernel), rfl, by decide +kernel⟩
theorem v10_hasRead : xMv yX10_hasRead RX10 := ⟨List.mem_of_getElem? (i := 482) (by decide +kernel), List.mem_of_getElem? (i := 483) (by decide +kernel)⟩
theorem k10_171 : Cond.methodLink RX10 171 yX10_splitHere ∈ wsL_law0 := List.mem_of_getElem? (i := 476) (by decide +kernel)
theorem k10_174 : Cond.methodLink RX10 174 yX10_hasRead ∈ wsL_law0 := List.mem_of_getElem? (i := 481) (by decide +kernel)
theorem dX10_splitTold_0 : decode cX10_splitTold 0 = .ok (.aload_n 0, 1) := by decide +kernel
theorem dX10_splitTold_1 : decode cX10_splitTold 1 = .ok (.getfield 141, 3) := by decide +kernel
theorem dX10_splitTold_4 : decode cX10_splitTold 4 = .ok (.iconst 2, 1) := by decide +kernel
theorem dX10_splitTold_5 : decode cX10_splitTold 5 = .ok (.if_icmp .eq 9, 3) := by decide +kernel
theorem dX10_splitTold_8 : decode cX10_splitTold 8 = .ok (.aload_n 0, 1) := by decide +kernel
theorem dX10_splitTold_9 : decode cX10_splitTold 9 = .ok (.iconst 1, 1) := by decide +kernel
theorem dX10_splitTold_10 : decode cX10_splitTold 10 = .ok (.invokevirtual 150, 3) := by decide +kernel
theorem dX10_splitTold_13 : decode cX10_splitTold 13 = .ok (.ireturn, 1) := by decide +kernel
theorem dX10_splitTold_14 : decode cX10_splitTold 14 = .ok (.aload_n 0, 1) := by decide +kernel
theorem dX10_splitTold_15 : decode cX10_splitTold 15 = .ok (.iload_n 1, 1) := by decide +kernel
theorem dX10_splitTold_16 : decode cX10_splitTold 16 = .ok (.invokevirtual 171, 3) := by decide +kernel
theorem dX10_splitTold_19 : decode cX10_splitTold 19 = .ok (.istore 5, 2) := by decide +kernel
theorem dX10_splitTold_21 : decode cX10_splitTold 21 = .ok (.aload_n 0, 1) := by decide +kernel
theorem dX10_splitTold_22 : decode cX10_splitTold 22 = .ok (.getfield 21, 3) := by decide +kernel
theorem dX10_splitTold_25 : decode cX10_splitTold 25 = .ok (.iload_n 1, 1) := by decide +kernel
theorem dX10_splitTold_26 : decode cX10_splitTold 26 = .ok (.iload_n 3, 1) := by decide +kernel
theorem dX10_splitTold_27 : decode cX10_splitTold 27 = .ok (.invokestatic 109, 3) := by decide +kernel
theorem dX10_splitTold_30 : decode cX10_splitTold 30 = .ok (.iaload, 1) := by decide +kernel
theorem dX10_splitTold_31 : decode cX10_splitTold 31 = .ok (.istore 6, 2) := by decide +kernel
theorem dX10_splitTold_33 : decode cX10_splitTold 33 = .ok (.iload 5, 2) := by decide +kernel
theorem dX10_splitTold_35 : decode cX10_splitTold 35 = .ok (.iconst (-1), 1) := by decide +kernel
theorem dX10_splitTold_36 : decode cX10_splitTold 36 = .ok (.if_icmp .eq 19, 3) := by decide +kernel
theorem dX10_splitTold_39 : decode cX10_splitTold 39 = .ok (.aload_n 0, 1) := by decide +kernel
theorem dX10_splitTold_40 : decode cX10_splitTold 40 = .ok (.iload_n 1, 1) := by decide +kernel
theorem dX10_splitTold_41 : decode cX10_splitTold 41 = .ok (.iload_n 2, 1) := by decide +kernel
theorem dX10_splitTold_42 : decode cX10_splitTold 42 = .ok (.invokestatic 109, 3) := by decide +kernel
theorem dX10_splitTold_45 : decode cX10_splitTold 45 = .ok (.iload 6, 2) := by decide +kernel
theorem dX10_splitTold_47 : decode cX10_splitTold 47 = .ok (.iload 5, 2) := by decide +kernel
theorem dX10_splitTold_49 : decode cX10_splitTold 49 = .ok (.invokevirtual 174, 3) := by decide +kernel
theorem dX10_splitTold_52 : decode cX10_splitTold 52 = .ok (.ifCond .eq 9, 3) := by decide +kernel
theorem dX10_splitTold_55 : decode cX10_splitTold 55 = .ok (.aload_n 0, 1) := by decide +kernel
theorem dX10_splitTold_56 : decode cX10_splitTold 56 = .ok (.iconst 3, 1) := by decide +kernel
theorem dX10_splitTold_57 : decode cX10_splitTold 57 = .ok (.invokevirtual 150, 3) := by decide +kernel
theorem dX10_splitTold_60 : decode cX10_splitTold 60 = .ok (.ireturn, 1) := by decide +kernel
theorem dX10_splitTold_61 : decode cX10_splitTold 61 = .ok (.iload 6, 2) := by decide +kernel
theorem dX10_splitTold_63 : decode cX10_splitTold 63 = .ok (.iload 4, 2) := by decide +kernel
theorem dX10_splitTold_65 : decode cX10_splitTold 65 = .ok (.if_icmp .ne 9, 3) := by decide +kernel
theorem dX10_splitTold_68 : decode cX10_splitTold 68 = .ok (.aload_n 0, 1) := by decide +kernel
theorem dX10_splitTold_69 : decode cX10_splitTold 69 = .ok (.iconst 4, 1) := by decide +kernel
theorem dX10_splitTold_70 : decode cX10_splitTold 70 = .ok (.invokevirtual 150, 3) := by decide +kernel
theorem dX10_splitTold_73 : decode cX10_splitTold 73 = .ok (.ireturn, 1) := by decide +kernel
theorem dX10_splitTold_74 : decode cX10_splitTold 74 = .ok (.aload_n 0, 1) := by decide +kernel
theorem dX10_splitTold_75 : decode cX10_splitTold 75 = .ok (.getfield 21, 3) := by decide +kernel
theorem dX10_splitTold_78 : decode cX10_splitTold 78 = .ok (.iload_n 1, 1) := by decide +kernel
theorem dX10_splitTold_79 : decode cX10_splitTold 79 = .ok (.iload_n 2, 1) := by decide +kernel
theorem dX10_splitTold_80 : decode cX10_splitTold 80 = .ok (.invokestatic 109, 3) := by decide +kernel
theorem dX10_splitTold_83 : decode cX10_splitTold 83 = .ok (.iload 6, 2) := by decide +kernel
theorem dX10_splitTold_85 : decode cX10_splitTold 85 = .ok (.iadd, 1) := by decide +kernel
theorem dX10_splitTold_86 : decode cX10_splitTold 86 = .ok (.iload 5, 2) := by decide +kernel
theorem dX10_splitTold_88 : decode cX10_splitTold 88 = .ok (.iastore, 1) := by decide +kernel
theorem dX10_splitTold_89 : decode cX10_splitTold 89 = .ok (.aload_n 0, 1) := by decide +kernel
theorem dX10_splitTold_90 : decode cX10_splitTold 90 = .ok (.getfield 21, 3) := by decide +kernel
theorem dX10_splitTold_93 : decode cX10_splitTold 93 = .ok (.iload_n 1, 1) := by decide +kernel
theorem dX10_splitTold_94 : decode cX10_splitTold 94 = .ok (.iload_n 3, 1) := by decide +kernel
theorem dX10_splitTold_95 : decode cX10_splitTold 95 = .ok (.invokestatic 109, 3) := by decide +kernel
theorem dX10_splitTold_98 : decode cX10_splitTold 98 = .ok (.dup2, 1) := by decide +kernel
theorem dX10_splitTold_99 : decode cX10_splitTold 99 = .ok (.iaload, 1) := by decide +kernel
theorem dX10_splitTold_100 : decode cX10_splitTold 100 = .ok (.iconst 1, 1) := by decide +kernel
theorem dX10_splitTold_101 : decode cX10_splitTold 101 = .ok (.iadd, 1) := by decide +kernel
theorem dX10_splitTold_102 : decode cX10_splitTold 102 = .ok (.iastore, 1) := by decide +kernel
theorem dX10_splitTold_103 : decode cX10_splitTold 103 = .ok (.aload_n 0, 1) := by decide +kernel
theorem dX10_splitTold_104 : decode cX10_splitTold 104 = .ok (.invokevirtual 160, 3) := by decide +kernel
theorem dX10_splitTold_107 : decode cX10_splitTold 107 = .ok (.iconst 1, 1) := by decide +kernel
theorem dX10_splitTold_108 : decode cX10_splitTold 108 = .ok (.ireturn, 1) := by decide +kernel
abbrev j10_splitTold : xJ := (cX10_splitTold, 7, RX10, 3, 0, 0)
def F10_splitTold_b55 (z : Nat) (c_read : (Nat → Int32)) (c_tape : (Nat → Int32)) (c_size : Int32) (c_from : Int32) (c_next : Int32) (c_token : Int32) (c_value : Int32) (c_fault : Int32) : Option (Int32 × (Nat → Int32) × Int32 × Int32 × Int32 × Int32 × Int32) :=
  (F10_bad (3 : Int32) c_from c_fault).bind (fun v57 => xg (xbo v57.1) (some (v57.1, c_read, c_from, c_next, c_token, c_value, v57.2)))
theorem T10_splitTold_b55 {X : xX} {c_thrown : Int32} {c_told : (Nat → Int32)} {c_many : (Nat → Int32)} {c_eights : (Nat → Int32)} {c_gains : (Nat → Int32)} {c_notes : (Nat → Int32)} {c_seen : (Nat → Int32)} {c_turns : (Nat → Int32)} {c_drawn : (Nat → Int32)} {c_state : Int32} {c_taped : Int32} {c_number : Int32} {c_fives : (Nat → Int32)} {c_isLeft : (Nat → Int32)} {c_wentTimes : Int32} {c_goes : (Nat → Int32)} {c_isLeftLaid : Int32} {c_game : (Nat → Int32)} {c_rows : Int32} {c_columns : Int32} {c_isFound : Int32} {c_bestValue : Int64} {c_bestBelow : Int64} {c_bestShare : (Nat → Int64)} {c_share : (Nat → Int64)} {c_matrix : (Nat → Int64)} {c_system : (Nat → Int64)} {c_shares : (Nat → Int32)} {c_allShares : Int32} {c_read : (Nat → Int32)} {c_tape : (Nat → Int32)} {c_size : Int32} {c_from : Int32} {c_next : Int32} {c_token : Int32} {c_value : Int32} {c_fault : Int32} {z : Nat} {v : Int32 × (Nat → Int32) × Int32 × Int32 × Int32 × Int32 × Int32} (hX : xIs (j10_splitTold) X ((some .boolean)) (some (.int v.1)) (hM c_thrown c_told v.2.1 c_many c_eights c_gains c_notes c_seen c_turns c_drawn c_state c_tape c_taped c_size v.2.2.1 v.2.2.2.1 v.2.2.2.2.1 v.2.2.2.2.2.1 v.2.2.2.2.2.2 c_number c_fives c_isLeft c_wentTimes c_goes c_isLeftLaid c_game c_rows c_columns c_isFound c_bestValue c_bestBelow c_bestShare c_share c_matrix c_system c_shares c_allShares)) (hf : F10_splitTold_b55 z c_read c_tape c_size c_from c_next c_token c_value c_fault = some v) : xV (j10_splitTold) X 0 0 (hM c_thrown c_told c_read c_many c_eights c_gains c_notes c_seen c_turns c_drawn c_state c_tape c_taped c_size c_from c_next c_token c_value c_fault c_number c_fives c_isLeft c_wentTimes c_goes c_isLeftLaid c_game c_rows c_columns c_isFound c_bestValue c_bestBelow c_bestShare c_share c_matrix c_system c_shares c_allShares) 55 [(0, .ref 0)] [] := by
  unfold F10_splitTold_b55 at hf
  refine xV_aload_n 56 rfl dX10_splitTold_55 rfl 0 rfl ?_
  refine xV_iconst 57 rfl dX10_splitTold_56 xk_i3 ?_
  obtain ⟨v57, hv57, hf⟩ := xb_s hf
  refine xV_same (rest := []) 60 rfl dX10_splitTold_57 rfl (C10_bad X.1.2.1 hv57) m10_bad v10_bad k10_150 rfl rfl rfl rfl rfl (Nat.le_of_ble_eq_true rfl) (Nat.le_of_ble_eq_true rfl) (Nat.le_of_ble_eq_true rfl) ⟨Nat.le_refl _, Nat.le_refl _⟩ ?_
  show xV (j10_splitTold) X 0 0 (hM c_thrown c_told c_read c_many c_eights c_gains c_notes c_seen c_turns c_drawn c_state c_tape c_taped c_size c_from c_next c_token c_value v57.2 c_number c_fives c_isLeft c_wentTimes c_goes c_isLeftLaid c_game c_rows c_columns c_isFound c_bestValue c_bestBelow c_bestShare c_share c_matrix c_system c_shares c_allShares) 60 [(0, .ref 0)] [.int v57.1]
  obtain ⟨hgr, hf⟩ := xg_s hf
  obtain rfl := Option.some.inj hf
  exact xV_iret hX dX10_splitTold_60 (xbo_ok hgr) (Nat.zero_le _) (Nat.zero_le _)
def F10_splitTold (z : Nat) (x1 : Int32) (x2 : Int32) (x3 : Int32) (x4 : Int32) (c_read : (Nat → Int32)) (c_tape : (Nat → Int32)) (c_size : Int32) (c_from : Int32) (c_next : Int32) (c_token : Int32) (c_value : Int32) (c_fault : Int32) : Option (Int32 × (Nat → Int32) × Int32 × Int32 × Int32 × Int32 × Int32) :=
  if c_token = (2 : Int32) then ((F10_splitHere z x1 c_read c_tape c_size c_from c_next).bind (fun v16 => (F10_at x1 x3).bind (fun v27 => xg (xin v27 56) (if v16 = (-1 : Int32) then (F10_splitTold_b55 z c_read c_tape c_size c_from c_next c_token c_value c_fault) else ((F10_at x1 x2).bind (fun v42 => (F10_hasRead z v42 (c_read (xn v27)) v16 c_read).bind (fun v49 => if v49 = 0 then (if (c_read (xn v27)) = x4 then ((F10_bad (4 : Int32) c_from c_fault).bind (fun v70 => xg (xbo v70.1) (some (v70.1, c_read, c_from, c_next, c_token, c_value, v70.2)))) else ((F10_at x1 x2).bind (fun v80 => xg (xin (v80 + (c_read (xn v27))) 56) ((F10_at x1 x3).bind (fun v95 => xg (xin v95 56) (xg (xin v95 56) ((F10_go z c_tape c_size c_from c_next c_token c_value).bind (fun v104 => some ((1 : Int32), (upd (upd c_read (xn (v80 + (c_read (xn v27)))) v16) (xn v95) (((upd c_read (xn (v80 + (c_read (xn v27)))) v16) (xn v95)) + (1 : Int32))), v104.1, v104.2.1, v104.2.2.1, v104.2.2.2, c_fault))))))))) else (F10_splitTold_b55 z c_read c_tape c_size c_from c_next c_token c_value c_fault)))))))) else ((F10_bad (1 : Int32) c_from c_fault).bind (fun v10 => xg (xbo v10.1) (some (v10.1, c_read, c_from, c_next, c_token, c_value, v10.2))))
theorem T10_splitTold {X : xX} {z : Nat} {x1 : Int32} {x2 : Int32} {x3 : Int32} {x4 : Int32} {c_read : (Nat → Int32)} {c_tape : (Nat → Int32)} {c_size : Int32} {c_from : Int32} {c_next : Int32} {c_token : Int32} {c_value : Int32} {c_fault : Int32} {c_thrown : Int32} {c_told : (Nat → Int32)} {c_many : (Nat → Int32)} {c_eights : (Nat → Int32)} {c_gains : (Nat → Int32)} {c_notes : (Nat → Int32)} {c_seen : (Nat → Int32)} {c_turns : (Nat → Int32)} {c_drawn : (Nat → Int32)} {c_state : Int32} {c_taped : Int32} {c_number : Int32} {c_fives : (Nat → Int32)} {c_isLeft : (Nat → Int32)} {c_wentTimes : Int32} {c_goes : (Nat → Int32)} {c_isLeftLaid : Int32} {c_game : (Nat → Int32)} {c_rows : Int32} {c_columns : Int32} {c_isFound : Int32} {c_bestValue : Int64} {c_bestBelow : Int64} {c_bestShare : (Nat → Int64)} {c_share : (Nat → Int64)} {c_matrix : (Nat → Int64)} {c_system : (Nat → Int64)} {c_shares : (Nat → Int32)} {c_allShares : Int32} {v : Int32 × (Nat → Int32) × Int32 × Int32 × Int32 × Int32 × Int32} (hX : xIs (j10_splitTold) X ((some .boolean)) (some (.int v.1)) (hM c_thrown c_told v.2.1 c_many c_eights c_gains c_notes c_seen c_turns c_drawn c_state c_tape c_taped c_size v.2.2.1 v.2.2.2.1 v.2.2.2.2.1 v.2.2.2.2.2.1 v.2.2.2.2.2.2 c_number c_fives c_isLeft c_wentTimes c_goes c_isLeftLaid c_game c_rows c_columns c_isFound c_bestValue c_bestBelow c_bestShare c_share c_matrix c_system c_shares c_allShares)) (hf : F10_splitTold z x1 x2 x3 x4 c_read c_tape c_size c_from c_next c_token c_value c_fault = some v) : xV (j10_splitTold) X 0 0 (hM c_thrown c_told c_read c_many c_eights c_gains c_notes c_seen c_turns c_drawn c_state c_tape c_taped c_size c_from c_next c_token c_value c_fault c_number c_fives c_isLeft c_wentTimes c_goes c_isLeftLaid c_game c_rows c_columns c_isFound c_bestValue c_bestBelow c_bestShare c_share c_matrix c_system c_shares c_allShares) 0 [(0, .ref 0), (1, .int x1), (2, .int x2), (3, .int x3), (4, .int x4)] [] := by
  unfold F10_splitTold at hf
  refine xV_aload_n 1 rfl dX10_splitTold_0 rfl 0 rfl ?_
  refine xV_get (v := .int c_token) 4 rfl dX10_splitTold_1 f10_141 rfl rfl ?_
  refine xV_iconst 5 rfl dX10_splitTold_4 xk_i2 ?_
  refine xV_icmp_eq (tgt := 14) 8 rfl dX10_splitTold_5 (by decide) (fun h5 => ?_) (fun h5 => ?_)
  · have hf := xif_t hf h5
    refine xV_aload_n 15 rfl dX10_splitTold_14 rfl 0 rfl ?_
    refine xV_iload_n 16 rfl dX10_splitTold_15 rfl 1 rfl ?_
    obtain ⟨v16, hv16, hf⟩ := xb_s hf
    refine xV_same (rest := []) 19 rfl dX10_splitTold_16 rfl (C10_splitHere X.1.2.1 hv16) m10_splitHere v10_splitHere k10_171 rfl rfl rfl rfl rfl (Nat.le_of_ble_eq_true rfl) (Nat.le_of_ble_eq_true rfl) (Nat.le_of_ble_eq_true rfl) ⟨Nat.le_refl _, Nat.le_refl _⟩ ?_
    show xV (j10_splitTold) X 0 0 (hM c_thrown c_told c_read c_many c_eights c_gains c_notes c_seen c_turns c_drawn c_state c_tape c_taped c_size c_from c_next c_token c_value c_fault c_number c_fives c_isLeft c_wentTimes c_goes c_isLeftLaid c_game c_rows c_columns c_isFound c_bestValue c_bestBelow c_bestShare c_share c_matrix c_system c_shares c_allShares) 19 [(0, .ref 0), (1, .int x1), (2, .int x2), (3, .int x3), (4, .int x4)] [.int v16]
    refine xV_istore (L' := [(5, .int v16), (0, .ref 0), (1, .int x1), (2, .int x2), (3, .int x3), (4, .int x4)]) 21 rfl dX10_splitTold_19 (xlt rfl) rfl ?_
    refine xV_aload_n 22 rfl dX10_splitTold_21 rfl 1 rfl ?_
    refine xV_get (v := .ref 2) 25 rfl dX10_splitTold_22 f10_21 rfl rfl ?_
    refine xV_iload_n 26 rfl dX10_splitTold_25 rfl 2 rfl ?_
    refine xV_iload_n 27 rfl dX10_splitTold_26 rfl 4 rfl ?_
    obtain ⟨v27, hv27, hf⟩ := xb_s hf
    refine xV_st0 (rest := [.ref 2]) 30 rfl dX10_splitTold_27 rfl (C10_at X.1.2.1 hv27) m10_at s10_at k10_109 rfl (Nat.le_of_ble_eq_true rfl) (Nat.le_of_ble_eq_true rfl) (Nat.le_of_ble_eq_true rfl) ⟨Nat.le_refl _, Nat.le_refl _⟩ ?_
    show xV (j10_splitTold) X 0 0 (hM c_thrown c_told c_read c_many c_eights c_gains c_notes c_seen c_turns c_drawn c_state c_tape c_taped c_size c_from c_next c_token c_value c_fault c_number c_fives c_isLeft c_wentTimes c_goes c_isLeftLaid c_game c_rows c_columns c_isFound c_bestValue c_bestBelow c_bestShare c_share c_matrix c_system c_shares c_allShares) 30 [(5, .int v16), (0, .ref 0), (1, .int x1), (2, .int x2), (3, .int x3), (4, .int x4)] [.int v27, .ref 2]
    obtain ⟨hg30, hf⟩ := xg_s hf
    refine xV_iaload 31 rfl dX10_splitTold_30 rfl (xin_ok hg30) rfl ?_
    refine xV_istore (L' := [(6, .int (c_read (xn v27))), (5, .int v16), (0, .ref 0), (1, .int x1), (2, .int x2), (3, .int x3), (4, .int x4)]) 33 rfl dX10_splitTold_31 (xlt rfl) rfl ?_
    refine xV_iload 35 rfl dX10_splitTold_33 1 rfl ?_
    refine xV_iconst 36 rfl dX10_splitTold_35 xk_im1 ?_
    refine xV_icmp_eq (tgt := 55) 39 rfl dX10_splitTold_36 (by decide) (fun h36 => ?_) (fun h36 => ?_)
    · have hf := xif_t hf h36
      refine xV_sub [2] rfl ?_
      exact T10_splitTold_b55 hX hf
    · have hf := xif_f hf h36
      refine xV_aload_n 40 rfl dX10_splitTold_39 rfl 2 rfl ?_
      refine xV_iload_n 41 rfl dX10_splitTold_40 rfl 3 rfl ?_
      refine xV_iload_n 42 rfl dX10_splitTold_41 rfl 4 rfl ?_
      obtain ⟨v42, hv42, hf⟩ := xb_s hf
      refine xV_st0 (rest := [.ref 0]) 45 rfl dX10_splitTold_42 rfl (C10_at X.1.2.1 hv42) m10_at s10_at k10_109 rfl (Nat.le_of_ble_eq_true rfl) (Nat.le_of_ble_eq_true rfl) (Nat.le_of_ble_eq_true rfl) ⟨Nat.le_refl _, Nat.le_refl _⟩ ?_
      show xV (j10_splitTold) X 0 0 (hM c_thrown c_told c_read c_many c_eights c_gains c_notes c_seen c_turns c_drawn c_state c_tape c_taped c_size c_from c_next c_token c_value c_fault c_number c_fives c_isLeft c_wentTimes c_goes c_isLeftLaid c_game c_rows c_columns c_isFound c_bestValue c_bestBelow c_bestShare c_share c_matrix c_system c_shares c_allShares) 45 [(6, .int (c_read (xn v27))), (5, .int v16), (0, .ref 0), (1, .int x1), (2, .int x2), (3, .int x3), (4, .int x4)] [.int v42, .ref 0]
      refine xV_iload 47 rfl dX10_splitTold_45 0 rfl ?_
      refine xV_iload 49 rfl dX10_splitTold_47 1 rfl ?_
      obtain ⟨v49, hv49, hf⟩ := xb_s hf
      refine xV_same (rest := []) 52 rfl dX10_splitTold_49 rfl (C10_hasRead X.1.2.1 hv49) m10_hasRead v10_hasRead k10_174 rfl rfl rfl rfl rfl (Nat.le_of_ble_eq_true rfl) (Nat.le_of_ble_eq_true rfl) (Nat.le_of_ble_eq_true rfl) ⟨Nat.le_refl _, Nat.le_refl _⟩ ?_
      show xV (j10_splitTold) X 0 0 (hM c_thrown c_told c_read c_many c_eights c_gains c_notes c_seen c_turns c_drawn c_state c_tape c_taped c_size c_from c_next c_token c_value c_fault c_number c_fives c_isLeft c_wentTimes c_goes c_isLeftLaid c_game c_rows c_columns c_isFound c_bestValue c_bestBelow c_bestShare c_share c_matrix c_system c_shares c_allShares) 52 [(6, .int (c_read (xn v27))), (5, .int v16), (0, .ref 0), (1, .int x1), (2, .int x2), (3, .int x3), (4, .int x4)] [.int v49]
      refine xV_if_eq (tgt := 61) 55 rfl dX10_splitTold_52 (by decide) (fun h52 => ?_) (fun h52 => ?_)
      · have hf := xif_t hf h52
        refine xV_iload 63 rfl dX10_splitTold_61 0 rfl ?_
        refine xV_iload 65 rfl dX10_splitTold_63 6 rfl ?_
        refine xV_icmp_ne (tgt := 74) 68 rfl dX10_splitTold_65 (by decide) (fun h65 => ?_) (fun h65 => ?_)
        · have hf := xif_f hf h65
          refine xV_aload_n 75 rfl dX10_splitTold_74 rfl 2 rfl ?_
          refine xV_get (v := .ref 2) 78 rfl dX10_splitTold_75 f10_21 rfl rfl ?_
          refine xV_iload_n 79 rfl dX10_splitTold_78 rfl 3 rfl ?_
          refine xV_iload_n 80 rfl dX10_splitTold_79 rfl 4 rfl ?_
          obtain ⟨v80, hv80, hf⟩ := xb_s hf
          refine xV_st0 (rest := [.ref 2]) 83 rfl dX10_splitTold_80 rfl (C10_at X.1.2.1 hv80) m10_at s10_at k10_109 rfl (Nat.le_of_ble_eq_true rfl) (Nat.le_of_ble_eq_true rfl) (Nat.le_of_ble_eq_true rfl) ⟨Nat.le_refl _, Nat.le_refl _⟩ ?_
          show xV (j10_splitTold) X 0 0 (hM c_thrown c_told c_read c_many c_eights c_gains c_notes c_seen c_turns c_drawn c_state c_tape c_taped c_size c_from c_next c_token c_value c_fault c_number c_fives c_isLeft c_wentTimes c_goes c_isLeftLaid c_game c_rows c_columns c_isFound c_bestValue c_bestBelow c_bestShare c_share c_matrix c_system c_shares c_allShares) 83 [(6, .int (c_read (xn v27))), (5, .int v16), (0, .ref 0), (1, .int x1), (2, .int x2), (3, .int x3), (4, .int x4)] [.int v80, .ref 2]
          refine xV_iload 85 rfl dX10_splitTold_83 0 rfl ?_
          refine xV_iadd 86 rfl dX10_splitTold_85 ?_
          refine xV_iload 88 rfl dX10_splitTold_86 1 rfl ?_
          obtain ⟨hg88, hf⟩ := xg_s hf
          refine xV_iastore (h' := (hM c_thrown c_told (upd c_read (xn (v80 + (c_read (xn v27)))) v16) c_many c_eights c_gains c_notes c_seen c_turns c_drawn c_state c_tape c_taped c_size c_from c_next c_token c_value c_fault c_number c_fives c_isLeft c_wentTimes c_goes c_isLeftLaid c_game c_rows c_columns c_isFound c_bestValue c_bestBelow c_bestShare c_share c_matrix c_system c_shares c_allShares)) 89 rfl dX10_splitTold_88 rfl (xin_ok hg88) rfl rfl ?_
          refine xV_aload_n 90 rfl dX10_splitTold_89 rfl 2 rfl ?_
          refine xV_get (v := .ref 2) 93 rfl dX10_splitTold_90 f10_21 rfl rfl ?_
          refine xV_iload_n 94 rfl dX10_splitTold_93 rfl 3 rfl ?_
          refine xV_iload_n 95 rfl dX10_splitTold_94 rfl 5 rfl ?_
          obtain ⟨v95, hv95, hf⟩ := xb_s hf
          refine xV_st0 (rest := [.ref 2]) 98 rfl dX10_splitTold_95 rfl (C10_at X.1.2.1 hv95) m10_at s10_at k10_109 rfl (Nat.le_of_ble_eq_true rfl) (Nat.le_of_ble_eq_true rfl) (Nat.le_of_ble_eq_true rfl) ⟨Nat.le_refl _, Nat.le_refl _⟩ ?_
          show xV (j10_splitTold) X 0 0 (hM c_thrown c_told (upd c_read (xn (v80 + (c_read (xn v27)))) v16) c_many c_eights c_gains c_notes c_seen c_turns c_drawn c_state c_tape c_taped c_size c_from c_next c_token c_value c_fault c_number c_fives c_isLeft c_wentTimes c_goes c_isLeftLaid c_game c_rows c_columns c_isFound c_bestValue c_bestBelow c_bestShare c_share c_matrix c_system c_shares c_allShares) 98 [(6, .int (c_read (xn v27))), (5, .int v16), (0, .ref 0), (1, .int x1), (2, .int x2), (3, .int x3), (4, .int x4)] [.int v95, .ref 2]
          refine xV_dup2 99 rfl dX10_splitTold_98 rfl rfl ?_
          obtain ⟨hg99, hf⟩ := xg_s hf
          refine xV_iaload 100 rfl dX10_splitTold_99 rfl (xin_ok hg99) rfl ?_
          refine xV_iconst 101 rfl dX10_splitTold_100 xk_i1 ?_
          refine xV_iadd 102 rfl dX10_splitTold_101 ?_
          obtain ⟨hg102, hf⟩ := xg_s hf
          refine xV_iastore (h' := (hM c_thrown c_told (upd (upd c_read (xn (v80 + (c_read (xn v27)))) v16) (xn v95) (((upd c_read (xn (v80 + (c_read (xn v27)))) v16) (xn v95)) + (1 : Int32))) c_many c_eights c_gains c_notes c_seen c_turns c_drawn c_state c_tape c_taped c_size c_from c_next c_token c_value c_fault c_number c_fives c_isLeft c_wentTimes c_goes c_isLeftLaid c_game c_rows c_columns c_isFound c_bestValue c_bestBelow c_bestShare c_share c_matrix c_system c_shares c_allShares)) 103 rfl dX10_splitTold_102 rfl (xin_ok hg102) rfl rfl ?_
          refine xV_aload_n 104 rfl dX10_splitTold_103 rfl 2 rfl ?_
          obtain ⟨v104, hv104, hf⟩ := xb_s hf
          refine xV_same (rest := []) 107 rfl dX10_splitTold_104 rfl (C10_go X.1.2.1 hv104) m10_go v10_go k10_160 rfl rfl rfl rfl rfl (Nat.le_of_ble_eq_true rfl) (Nat.le_of_ble_eq_true rfl) (Nat.le_of_ble_eq_true rfl) ⟨Nat.le_refl _, Nat.le_refl _⟩ ?_
          show xV (j10_splitTold) X 0 0 (hM c_thrown c_told (upd (upd c_read (xn (v80 + (c_read (xn v27)))) v16) (xn v95) (((upd c_read (xn (v80 + (c_read (xn v27)))) v16) (xn v95)) + (1 : Int32))) c_many c_eights c_gains c_notes c_seen c_turns c_drawn c_state c_tape c_taped c_size v104.1 v104.2.1 v104.2.2.1 v104.2.2.2 c_fault c_number c_fives c_isLeft c_wentTimes c_goes c_isLeftLaid c_game c_rows c_columns c_isFound c_bestValue c_bestBelow c_bestShare c_share c_matrix c_system c_shares c_allShares) 107 [(6, .int (c_read (xn v27))), (5, .int v16), (0, .ref 0), (1, .int x1), (2, .int x2), (3, .int x3), (4, .int x4)] []
          refine xV_iconst 108 rfl dX10_splitTold_107 xk_i1 ?_
          obtain rfl := Option.some.inj hf
          exact xV_iret hX dX10_splitTold_108 (xbo_ok rfl) (Nat.zero_le _) (Nat.zero_le _)
        · have hf := xif_t hf h65
          refine xV_aload_n 69 rfl dX10_splitTold_68 rfl 2 rfl ?_
          refine xV_iconst 70 rfl dX10_splitTold_69 xk_i4 ?_
          obtain ⟨v70, hv70, hf⟩ := xb_s hf
          refine xV_same (rest := []) 73 rfl dX10_splitTold_70 rfl (C10_bad X.1.2.1 hv70) m10_bad v10_bad k10_150 rfl rfl rfl rfl rfl (Nat.le_of_ble_eq_true rfl) (Nat.le_of_ble_eq_true rfl) (Nat.le_of_ble_eq_true rfl) ⟨Nat.le_refl _, Nat.le_refl _⟩ ?_
          show xV (j10_splitTold) X 0 0 (hM c_thrown c_told c_read c_many c_eights c_gains c_notes c_seen c_turns c_drawn c_state c_tape c_taped c_size c_from c_next c_token c_value v70.2 c_number c_fives c_isLeft c_wentTimes c_goes c_isLeftLaid c_game c_rows c_columns c_isFound c_bestValue c_bestBelow c_bestShare c_share c_matrix c_system c_shares c_allShares) 73 [(6, .int (c_read (xn v27))), (5, .int v16), (0, .ref 0), (1, .int x1), (2, .int x2), (3, .int x3), (4, .int x4)] [.int v70.1]
          obtain ⟨hgr, hf⟩ := xg_s hf
          obtain rfl := Option.some.inj hf
          exact xV_iret hX dX10_splitTold_73 (xbo_ok hgr) (Nat.zero_le _) (Nat.zero_le _)
      · have hf := xif_f hf h52
        refine xV_sub [2] rfl ?_
        exact T10_splitTold_b55 hX hf
  · have hf := xif_f hf h5
    refine xV_aload_n 9 rfl dX10_splitTold_8 rfl 0 rfl ?_
    refine xV_iconst 10 rfl dX10_splitTold_9 xk_i1 ?_
    obtain ⟨v10, hv10, hf⟩ := xb_s hf
    refine xV_same (rest := []) 13 rfl dX10_splitTold_10 rfl (C10_bad X.1.2.1 hv10) m10_bad v10_bad k10_150 rfl rfl rfl rfl rfl (Nat.le_of_ble_eq_true rfl) (Nat.le_of_ble_eq_true rfl) (Nat.le_of_ble_eq_true rfl) ⟨Nat.le_refl _, Nat.le_refl _⟩ ?_
    show xV (j10_splitTold) X 0 0 (hM c_thrown c_told c_read c_many c_eights c_gains c_notes c_seen c_turns c_drawn c_state c_tape c_taped c_size c_from c_next c_token c_value v10.2 c_number c_fives c_isLeft c_wentTimes c_goes c_isLeftLaid c_game c_rows c_columns c_isFound c_bestValue c_bestBelow c_bestShare c_share c_matrix c_system c_shares c_allShares) 13 [(0, .ref 0), (1, .int x1), (2, .int x2), (3, .int x3), (4, .int x4)] [.int v10.1]
    obtain ⟨hgr, hf⟩ := xg_s hf
    obtain rfl := Option.some.inj hf
    exact xV_iret hX dX10_splitTold_13 (xbo_ok hgr) (Nat.zero_le _) (Nat.zero_le _)
theorem C10_splitTold (l : Launch) {z : Nat} {x1 : Int32} {x2 : Int32} {x3 : Int32} {x4 : Int32} {c_read : (Nat → Int32)} {c_tape : (Nat → Int32)} {c_size : Int32} {c_from : Int32} {c_next : Int32} {c_token : Int32} {c_value : Int32} {c_fault : Int32} {c_thrown : Int32} {c_told : (Nat → Int32)} {c_many : (Nat → Int32)} {c_eights : (Nat → Int32)} {c_gains : (Nat → Int32)} {c_notes : (Nat → Int32)} {c_seen : (Nat → Int32)} {c_turns : (Nat → Int32)} {c_drawn : (Nat → Int32)} {c_state : Int32} {c_taped : Int32} {c_number : Int32} {c_fives : (Nat → Int32)} {c_isLeft : (Nat → Int32)} {c_wentTimes : Int32} {c_goes : (Nat → Int32)} {c_isLeftLaid : Int32} {c_game : (Nat → Int32)} {c_rows : Int32} {c_columns : Int32} {c_isFound : Int32} {c_bestValue : Int64} {c_bestBelow : Int64} {c_bestShare : (Nat → Int64)} {c_share : (Nat → Int64)} {c_matrix : (Nat → Int64)} {c_system : (Nat → Int64)} {c_shares : (Nat → Int32)} {c_allShares : Int32} {v : Int32 × (Nat → Int32) × Int32 × Int32 × Int32 × Int32 × Int32} (hf : F10_splitTold z x1 x2 x3 x4 c_read c_tape c_size c_from c_next c_token c_value c_fault = some v) : xCt l yX10_splitTold ((some .boolean)) j10_splitTold [.ref 0, .int x1, .int x2, .int x3, .int x4] (hM c_thrown c_told c_read c_many c_eights c_gains c_notes c_seen c_turns c_drawn c_state c_tape c_taped c_size c_from c_next c_token c_value c_fault c_number c_fives c_isLeft c_wentTimes c_goes c_isLeftLaid c_game c_rows c_columns c_isFound c_bestValue c_bestBelow c_bestShare c_share c_matrix c_system c_shares c_allShares) (some (.int v.1)) (hM c_thrown c_told v.2.1 c_many c_eights c_gains c_notes c_seen c_turns c_drawn c_state c_tape c_taped c_size v.2.2.1 v.2.2.2.1 v.2.2.2.2.1 v.2.2.2.2.2.1 v.2.2.2.2.2.2 c_number c_fives c_isLeft c_wentTimes c_goes c_isLeftLaid c_game c_rows c_columns c_isFound c_bestValue c_bestBelow c_bestShare c_share c_matrix c_system c_shares c_allShares) := xCt_of (by decide) rfl (Nat.le_of_ble_eq_true rfl) (fun _ hX => T10_splitTold hX hf)
theorem m10_splitTold : xMd yX10_splitTold RX10 ((some .boolean)) j10_splitTold 4 := ⟨List.mem_of_getElem? (i := 475) (by decide +kernel), List.mem_of_getElem? (i := 5) (by decide +kernel), rfl, by decide +kernel⟩
theorem v10_splitTold : xMv yX10_splitTold RX10 := ⟨List.mem_of_getElem? (i := 473) (by decide +kernel), List.mem_of_getElem? (i := 474) (by decide +kernel)⟩
theorem k10_177 : Cond.methodLink RX10 177 yX10_splitTold ∈ wsL_law0 := List.mem_of_getElem? (i := 472) (by decide +kernel)
theorem dX10_bookLine_0 : decode cX10_bookLine 0 = .ok (.aload_n 0, 1) := by decide +kernel
theorem dX10_bookLine_1 : decode cX10_bookLine 1 = .ok (.invokevirtual 160, 3) := by decide +kernel
theorem dX10_bookLine_4 : decode cX10_bookLine 4 = .ok (.aload_n 0, 1) := by decide +kernel
theorem dX10_bookLine_5 : decode cX10_bookLine 5 = .ok (.iconst 0, 1) := by decide +kernel
theorem dX10_bookLine_6 : decode cX10_bookLine 6 = .ok (.iconst 1, 1) := by decide +kernel
theorem dX10_bookLine_7 : decode cX10_bookLine 7 = .ok (.invokevirtual 167, 3) := by decide +kernel
theorem dX10_bookLine_10 : decode cX10_bookLine 10 = .ok (.ifCond .ne 5, 3) := by decide +kernel
theorem dX10_bookLine_13 : decode cX10_bookLine 13 = .ok (.iconst 0, 1) := by decide +kernel
theorem dX10_bookLine_14 : decode cX10_bookLine 14 = .ok (.ireturn, 1) := by decide +kernel
theorem dX10_bookLine_15 : decode cX10_bookLine 15 = .ok (.aload_n 0, 1) := by decide +kernel
theorem dX10_bookLine_16 : decode cX10_bookLine 16 = .ok (.getfield 153, 3) := by decide +kernel
theorem dX10_bookLine_19 : decode cX10_bookLine 19 = .ok (.istore_n 1, 1) := by decide +kernel
theorem dX10_bookLine_20 : decode cX10_bookLine 20 = .ok (.aload_n 0, 1) := by decide +kernel
theorem dX10_bookLine_21 : decode cX10_bookLine 21 = .ok (.getfield 21, 3) := by decide +kernel
theorem dX10_bookLine_24 : decode cX10_bookLine 24 = .ok (.iload_n 1, 1) := by decide +kernel
theorem dX10_bookLine_25 : decode cX10_bookLine 25 = .ok (.iconst 0, 1) := by decide +kernel
theorem dX10_bookLine_26 : decode cX10_bookLine 26 = .ok (.invokestatic 109, 3) := by decide +kernel
theorem dX10_bookLine_29 : decode cX10_bookLine 29 = .ok (.iconst 0, 1) := by decide +kernel
theorem dX10_bookLine_30 : decode cX10_bookLine 30 = .ok (.iastore, 1) := by decide +kernel
theorem dX10_bookLine_31 : decode cX10_bookLine 31 = .ok (.aload_n 0, 1) := by decide +kernel
theorem dX10_bookLine_32 : decode cX10_bookLine 32 = .ok (.iload_n 1, 1) := by decide +kernel
theorem dX10_bookLine_33 : decode cX10_bookLine 33 = .ok (.iconst 1, 1) := by decide +kernel
theorem dX10_bookLine_34 : decode cX10_bookLine 34 = .ok (.iconst 0, 1) := by decide +kernel
theorem dX10_bookLine_35 : decode cX10_bookLine 35 = .ok (.bipush 6, 2) := by decide +kernel
theorem dX10_bookLine_37 : decode cX10_bookLine 37 = .ok (.invokevirtual 177, 3) := by decide +kernel
theorem dX10_bookLine_40 : decode cX10_bookLine 40 = .ok (.istore_n 2, 1) := by decide +kernel
theorem dX10_bookLine_41 : decode cX10_bookLine 41 = .ok (.iload_n 2, 1) := by decide +kernel
theorem dX10_bookLine_42 : decode cX10_bookLine 42 = .ok (.ifCond .eq 24, 3) := by decide +kernel
theorem dX10_bookLine_45 : decode cX10_bookLine 45 = .ok (.aload_n 0, 1) := by decide +kernel
theorem dX10_bookLine_46 : decode cX10_bookLine 46 = .ok (.getfield 141, 3) := by decide +kernel
theorem dX10_bookLine_49 : decode cX10_bookLine 49 = .ok (.iconst 2, 1) := by decide +kernel
theorem dX10_bookLine_50 : decode cX10_bookLine 50 = .ok (.if_icmp .ne 16, 3) := by decide +kernel
theorem dX10_bookLine_53 : decode cX10_bookLine 53 = .ok (.aload_n 0, 1) := by decide +kernel
theorem dX10_bookLine_54 : decode cX10_bookLine 54 = .ok (.iload_n 1, 1) := by decide +kernel
theorem dX10_bookLine_55 : decode cX10_bookLine 55 = .ok (.iconst 1, 1) := by decide +kernel
theorem dX10_bookLine_56 : decode cX10_bookLine 56 = .ok (.iconst 0, 1) := by decide +kernel
theorem dX10_bookLine_57 : decode cX10_bookLine 57 = .ok (.bipush 6, 2) := by decide +kernel
theorem dX10_bookLine_59 : decode cX10_bookLine 59 = .ok (.invokevirtual 177, 3) := by decide +kernel
theorem dX10_bookLine_62 : decode cX10_bookLine 62 = .ok (.istore_n 2, 1) := by decide +kernel
theorem dX10_bookLine_63 : decode cX10_bookLine 63 = .ok (.goto (-22), 3) := by decide +kernel
theorem dX10_bookLine_66 : decode cX10_bookLine 66 = .ok (.iload_n 2, 1) := by decide +kernel
theorem dX10_bookLine_67 : decode cX10_bookLine 67 = .ok (.ireturn, 1) := by decide +kernel
abbrev j10_bookLine : xJ := (cX10_bookLine, 3, RX10, 4, 0, 0)
def F10_bookLine_b41 (z : Nat) (w : Nat) (x1 : Int32) (x2 : Int32) (c_read : (Nat → Int32)) (c_tape : (Nat → Int32)) (c_size : Int32) (c_from : Int32) (c_next : Int32) (c_token : Int32) (c_value : Int32) (c_fault : Int32) (c_number : Int32) : Option (Int32 × (Nat → Int32) × Int32 × Int32 × Int32 × Int32 × Int32 × Int32) := match w with
  | 0 => none
  | w + 1 => if x2 = 0 then (xg (xbo x2) (some (x2, c_read, c_from, c_next, c_token, c_value, c_fault, c_number))) else (if c_token = (2 : Int32) then ((F10_splitTold z x1 (1 : Int32) (0 : Int32) (6 : Int32) c_read c_tape c_size c_from c_next c_token c_value c_fault).bind (fun v59 => F10_bookLine_b41 z w x1 v59.1 v59.2.1 c_tape c_size v59.2.2.1 v59.2.2.2.1 v59.2.2.2.2.1 v59.2.2.2.2.2.1 v59.2.2.2.2.2.2 c_number)) else (xg (xbo x2) (some (x2, c_read, c_from, c_next, c_token, c_value, c_fault, c_number))))
theorem T10_bookLine_b41 {X : xX} {c_thrown : Int32} {c_told : (Nat → Int32)} {c_many : (Nat → Int32)} {c_eights : (Nat → Int32)} {c_gains : (Nat → Int32)} {c_notes : (Nat → Int32)} {c_seen : (Nat → Int32)} {c_turns : (Nat → Int32)} {c_drawn : (Nat → Int32)} {c_state : Int32} {c_tape : (Nat → Int32)} {c_taped : Int32} {c_size : Int32} {c_fives : (Nat → Int32)} {c_isLeft : (Nat → Int32)} {c_wentTimes : Int32} {c_goes : (Nat → Int32)} {c_isLeftLaid : Int32} {c_game : (Nat → Int32)} {c_rows : Int32} {c_columns : Int32} {c_isFound : Int32} {c_bestValue : Int64} {c_bestBelow : Int64} {c_bestShare : (Nat → Int64)} {c_share : (Nat → Int64)} {c_matrix : (Nat → Int64)} {c_system : (Nat → Int64)} {c_shares : (Nat → Int32)} {c_allShares : Int32} {z : Nat} {v : Int32 × (Nat → Int32) × Int32 × Int32 × Int32 × Int32 × Int32 × Int32} (hX : xIs (j10_bookLine) X ((some .boolean)) (some (.int v.1)) (hM c_thrown c_told v.2.1 c_many c_eights c_gains c_notes c_seen c_turns c_drawn c_state c_tape c_taped c_size v.2.2.1 v.2.2.2.1 v.2.2.2.2.1 v.2.2.2.2.2.1 v.2.2.2.2.2.2.1 v.2.2.2.2.2.2.2 c_fives c_isLeft c_wentTimes c_goes c_isLeftLaid c_game c_rows c_columns c_isFound c_bestValue c_bestBelow c_bestShare c_share c_matrix c_system c_shares c_allShares)) : ∀ (w : Nat) {x1 : Int32} {x2 : Int32} {c_read : (Nat → Int32)} {c_from : Int32} {c_next : Int32} {c_token : Int32} {c_value : Int32} {c_fault : Int32} {c_number : Int32}, F10_bookLine_b41 z w x1 x2 c_read c_tape c_size c_from c_next c_token c_value c_fault c_number = some v → xV (j10_bookLine) X 0 0 (hM c_thrown c_told c_read c_many c_eights c_gains c_notes c_seen c_turns c_drawn c_state c_tape c_taped c_size c_from c_next c_token c_value c_fault c_number c_fives c_isLeft c_wentTimes c_goes c_isLeftLaid c_game c_rows c_columns c_isFound c_bestValue c_bestBelow c_bestShare c_share c_matrix c_system c_shares c_allShares) 41 [(0, .ref 0), (1, .int x1), (2, .int x2)] [] := by
  intro w
  induction w with
  | zero => intro x1 x2 c_read c_from c_next c_token c_value c_fault c_number hf; cases hf
  | succ w ih =>
    intro x1 x2 c_read c_from c_next c_token c_value c_fault c_number hf
    unfold F10_bookLine_b41 at hf
    refine xV_iload_n 42 rfl dX10_bookLine_41 rfl 2 rfl ?_
    refine xV_if_eq (tgt := 66) 45 rfl dX10_bookLine_42 (by decide) (fun h42 => ?_) (fun h42 => ?_)
    · have hf := xif_t hf h42
      refine xV_iload_n 67 rfl dX10_bookLine_66 rfl 2 rfl ?_
      obtain ⟨hgr, hf⟩ := xg_s hf
      obtain rfl := Option.some.inj hf
      exact xV_iret hX dX10_bookLine_67 (xbo_ok hgr) (Nat.zero_le _) (Nat.zero_le _)
    · have hf := xif_f hf h42
      refine xV_aload_n 46 rfl dX10_bookLine_45 rfl 0 rfl ?_
      refine xV_get (v := .int c_token) 49 rfl dX10_bookLine_46 f10_141 rfl rfl ?_
      refine xV_iconst 50 rfl dX10_bookLine_49 xk_i2 ?_
      refine xV_icmp_ne (tgt := 66) 53 rfl dX10_bookLine_50 (by decide) (fun h50 => ?_) (fun h50 => ?_)
      · have hf := xif_f hf h50
        refine xV_iload_n 67 rfl dX10_bookLine_66 rfl 2 rfl ?_
        obtain ⟨hgr, hf⟩ := xg_s hf
        obtain rfl := Option.some.inj hf
        exact xV_iret hX dX10_bookLine_67 (xbo_ok hgr) (Nat.zero_le _) (Nat.zero_le _)
      · have hf := xif_t hf h50
        refine xV_aload_n 54 rfl dX10_bookLine_53 rfl 0 rfl ?_
        refine xV_iload_n 55 rfl dX10_bookLine_54 rfl 1 rfl ?_
        refine xV_iconst 56 rfl dX10_bookLine_55 xk_i1 ?_
        refine xV_iconst 57 rfl dX10_bookLine_56 xk_i0 ?_
        refine xV_bipush 59 rfl dX10_bookLine_57 xk_b6 ?_
        obtain ⟨v59, hv59, hf⟩ := xb_s hf
        refine xV_same (rest := []) 62 rfl dX10_bookLine_59 rfl (C10_splitTold X.1.2.1 hv59) m10_splitTold v10_splitTold k10_177 rfl rfl rfl rfl rfl (Nat.le_of_ble_eq_true rfl) (Nat.le_of_ble_eq_true rfl) (Nat.le_of_ble_eq_true rfl) ⟨Nat.le_refl _, Nat.le_refl _⟩ ?_
        show xV (j10_bookLine) X 0 0 (hM c_thrown c_told v59.2.1 c_many c_eights c_gains c_notes c_seen c_turns c_drawn c_state c_tape c_taped c_size v59.2.2.1 v59.2.2.2.1 v59.2.2.2.2.1 v59.2.2.2.2.2.1 v59.2.2.2.2.2.2 c_number c_fives c_isLeft c_wentTimes c_goes c_isLeftLaid c_game c_rows c_columns c_isFound c_bestValue c_bestBelow c_bestShare c_share c_matrix c_system c_shares c_allShares) 62 [(0, .ref 0), (1, .int x1), (2, .int x2)] [.int v59.1]
        refine xV_istore_n (L' := [(2, .int v59.1), (0, .ref 0), (1, .int x1)]) 63 rfl dX10_bookLine_62 rfl (xlt rfl) rfl ?_
        refine xV_goto (tgt := 41) dX10_bookLine_63 (by decide) ?_
        refine xV_sub [1, 2, 0] rfl ?_
        exact ih hf
def F10_bookLine (z : Nat) (c_read : (Nat → Int32)) (c_tape : (Nat → Int32)) (c_size : Int32) (c_from : Int32) (c_next : Int32) (c_token : Int32) (c_value : Int32) (c_fault : Int32) (c_number : Int32) : Option (Int32 × (Nat → Int32) × Int32 × Int32 × Int32 × Int32 × Int32 × Int32) :=
  (F10_go z c_tape c_size c_from c_next c_token c_value).bind (fun v1 => (F10_numberIn z (0 : Int32) (1 : Int32) c_tape c_size v1.1 v1.2.1 v1.2.2.1 v1.2.2.2 c_fault c_number).bind (fun v7 => if v7.1 = 0 then (some ((0 : Int32), c_read, v7.2.1, v7.2.2.1, v7.2.2.2.1, v7.2.2.2.2.1, v7.2.2.2.2.2.1, v7.2.2.2.2.2.2)) else ((F10_at v7.2.2.2.2.2.2 (0 : Int32)).bind (fun v26 => xg (xin v26 56) ((F10_splitTold z v7.2.2.2.2.2.2 (1 : Int32) (0 : Int32) (6 : Int32) (upd c_read (xn v26) (0 : Int32)) c_tape c_size v7.2.1 v7.2.2.1 v7.2.2.2.1 v7.2.2.2.2.1 v7.2.2.2.2.2.1).bind (fun v37 => F10_bookLine_b41 z z v7.2.2.2.2.2.2 v37.1 v37.2.1 c_tape c_size v37.2.2.1 v37.2.2.2.1 v37.2.2.2.2.1 v37.2.2.2.2.2.1 v37.2.2.2.2.2.2 v7.2.2.2.2.2.2))))))
theorem T10_bookLine {X : xX} {z : Nat} {c_read : (Nat → Int32)} {c_tape : (Nat → Int32)} {c_size : Int32} {c_from : Int32} {c_next : Int32} {c_token : Int32} {c_value : Int32} {c_fault : Int32} {c_number : Int32} {c_thrown : Int32} {c_told : (Nat → Int32)} {c_many : (Nat → Int32)} {c_eights : (Nat → Int32)} {c_gains : (Nat → Int32)} {c_notes : (Nat → Int32)} {c_seen : (Nat → Int32)} {c_turns : (Nat → Int32)} {c_drawn : (Nat → Int32)} {c_state : Int32} {c_taped : Int32} {c_fives : (Nat → Int32)} {c_isLeft : (Nat → Int32)} {c_wentTimes : Int32} {c_goes : (Nat → Int32)} {c_isLeftLaid : Int32} {c_game : (Nat → Int32)} {c_rows : Int32} {c_columns : Int32} {c_isFound : Int32} {c_bestValue : Int64} {c_bestBelow : Int64} {c_bestShare : (Nat → Int64)} {c_share : (Nat → Int64)} {c_matrix : (Nat → Int64)} {c_system : (Nat → Int64)} {c_shares : (Nat → Int32)} {c_allShares : Int32} {v : Int32 × (Nat → Int32) × Int32 × Int32 × Int32 × Int32 × Int32 × Int32} (hX : xIs (j10_bookLine) X ((some .boolean)) (some (.int v.1)) (hM c_thrown c_told v.2.1 c_many c_eights c_gains c_notes c_seen c_turns c_drawn c_state c_tape c_taped c_size v.2.2.1 v.2.2.2.1 v.2.2.2.2.1 v.2.2.2.2.2.1 v.2.2.2.2.2.2.1 v.2.2.2.2.2.2.2 c_fives c_isLeft c_wentTimes c_goes c_isLeftLaid c_game c_rows c_columns c_isFound c_bestValue c_bestBelow c_bestShare c_share c_matrix c_system c_shares c_allShares)) (hf : F10_bookLine z c_read c_tape c_size c_from c_next c_token c_value c_fault c_number = some v) : xV (j10_bookLine) X 0 0 (hM c_thrown c_told c_read c_many c_eights c_gains c_notes c_seen c_turns c_drawn c_state c_tape c_taped c_size c_from c_next c_token c_value c_fault c_number c_fives c_isLeft c_wentTimes c_goes c_isLeftLaid c_game c_rows c_columns c_isFound c_bestValue c_bestBelow c_bestShare c_share c_matrix c_system c_shares c_allShares) 0 [(0, .ref 0)] [] := by
  unfold F10_bookLine at hf
  refine xV_aload_n 1 rfl dX10_bookLine_0 rfl 0 rfl ?_
  obtain ⟨v1, hv1, hf⟩ := xb_s hf
  refine xV_same (rest := []) 4 rfl dX10_bookLine_1 rfl (C10_go X.1.2.1 hv1) m10_go v10_go k10_160 rfl rfl rfl rfl rfl (Nat.le_of_ble_eq_true rfl) (Nat.le_of_ble_eq_true rfl) (Nat.le_of_ble_eq_true rfl) ⟨Nat.le_refl _, Nat.le_refl _⟩ ?_
  show xV (j10_bookLine) X 0 0 (hM c_thrown c_told c_read c_many c_eights c_gains c_notes c_seen c_turns c_drawn c_state c_tape c_taped c_size v1.1 v1.2.1 v1.2.2.1 v1.2.2.2 c_fault c_number c_fives c_isLeft c_wentTimes c_goes c_isLeftLaid c_game c_rows c_columns c_isFound c_bestValue c_bestBelow c_bestShare c_share c_matrix c_system c_shares c_allShares) 4 [(0, .ref 0)] []
  refine xV_aload_n 5 rfl dX10_bookLine_4 rfl 0 rfl ?_
  refine xV_iconst 6 rfl dX10_bookLine_5 xk_i0 ?_
  refine xV_iconst 7 rfl dX10_bookLine_6 xk_i1 ?_
  obtain ⟨v7, hv7, hf⟩ := xb_s hf
  refine xV_same (rest := []) 10 rfl dX10_bookLine_7 rfl (C10_numberIn X.1.2.1 hv7) m10_numberIn v10_numberIn k10_167 rfl rfl rfl rfl rfl (Nat.le_of_ble_eq_true rfl) (Nat.le_of_ble_eq_true rfl) (Nat.le_of_ble_eq_true rfl) ⟨Nat.le_refl _, Nat.le_refl _⟩ ?_
  show xV (j10_bookLine) X 0 0 (hM c_thrown c_told c_read c_many c_eights c_gains c_notes c_seen c_turns c_drawn c_state c_tape c_taped c_size v7.2.1 v7.2.2.1 v7.2.2.2.1 v7.2.2.2.2.1 v7.2.2.2.2.2.1 v7.2.2.2.2.2.2 c_fives c_isLeft c_wentTimes c_goes c_isLeftLaid c_game c_rows c_columns c_isFound c_bestValue c_bestBelow c_bestShare c_share c_matrix c_system c_shares c_allShares) 10 [(0, .ref 0)] [.int v7.1]
  refine xV_if_ne (tgt := 15) 13 rfl dX10_bookLine_10 (by decide) (fun h10 => ?_) (fun h10 => ?_)
  · have hf := xif_f hf h10
    refine xV_aload_n 16 rfl dX10_bookLine_15 rfl 0 rfl ?_
    refine xV_get (v := .int v7.2.2.2.2.2.2) 19 rfl dX10_bookLine_16 f10_153 rfl rfl ?_
    refine xV_istore_n (L' := [(1, .int v7.2.2.2.2.2.2), (0, .ref 0)]) 20 rfl dX10_bookLine_19 rfl (xlt rfl) rfl ?_
    refine xV_aload_n 21 rfl dX10_bookLine_20 rfl 1 rfl ?_
    refine xV_get (v := .ref 2) 24 rfl dX10_bookLine_21 f10_21 rfl rfl ?_
    refine xV_iload_n 25 rfl dX10_bookLine_24 rfl 0 rfl ?_
    refine xV_iconst 26 rfl dX10_bookLine_25 xk_i0 ?_
    obtain ⟨v26, hv26, hf⟩ := xb_s hf
    refine xV_st0 (rest := [.ref 2]) 29 rfl dX10_bookLine_26 rfl (C10_at X.1.2.1 hv26) m10_at s10_at k10_109 rfl (Nat.le_of_ble_eq_true rfl) (Nat.le_of_ble_eq_true rfl) (Nat.le_of_ble_eq_true rfl) ⟨Nat.le_refl _, Nat.le_refl _⟩ ?_
    show xV (j10_bookLine) X 0 0 (hM c_thrown c_told c_read c_many c_eights c_gains c_notes c_seen c_turns c_drawn c_state c_tape c_taped c_size v7.2.1 v7.2.2.1 v7.2.2.2.1 v7.2.2.2.2.1 v7.2.2.2.2.2.1 v7.2.2.2.2.2.2 c_fives c_isLeft c_wentTimes c_goes c_isLeftLaid c_game c_rows c_columns c_isFound c_bestValue c_bestBelow c_bestShare c_share c_matrix c_system c_shares c_allShares) 29 [(1, .int v7.2.2.2.2.2.2), (0, .ref 0)] [.int v26, .ref 2]
    refine xV_iconst 30 rfl dX10_bookLine_29 xk_i0 ?_
    obtain ⟨hg30, hf⟩ := xg_s hf
    refine xV_iastore (h' := (hM c_thrown c_told (upd c_read (xn v26) (0 : Int32)) c_many c_eights c_gains c_notes c_seen c_turns c_drawn c_state c_tape c_taped c_size v7.2.1 v7.2.2.1 v7.2.2.2.1 v7.2.2.2.2.1 v7.2.2.2.2.2.1 v7.2.2.2.2.2.2 c_fives c_isLeft c_wentTimes c_goes c_isLeftLaid c_game c_rows c_columns c_isFound c_bestValue c_bestBelow c_bestShare c_share c_matrix c_system c_shares c_allShares)) 31 rfl dX10_bookLine_30 rfl (xin_ok hg30) rfl rfl ?_
    refine xV_aload_n 32 rfl dX10_bookLine_31 rfl 1 rfl ?_
    refine xV_iload_n 33 rfl dX10_bookLine_32 rfl 0 rfl ?_
    refine xV_iconst 34 rfl dX10_bookLine_33 xk_i1 ?_
    refine xV_iconst 35 rfl dX10_bookLine_34 xk_i0 ?_
    refine xV_bipush 37 rfl dX10_bookLine_35 xk_b6 ?_
    obtain ⟨v37, hv37, hf⟩ := xb_s hf
    refine xV_same (rest := []) 40 rfl dX10_bookLine_37 rfl (C10_splitTold X.1.2.1 hv37) m10_splitTold v10_splitTold k10_177 rfl rfl rfl rfl rfl (Nat.le_of_ble_eq_true rfl) (Nat.le_of_ble_eq_true rfl) (Nat.le_of_ble_eq_true rfl) ⟨Nat.le_refl _, Nat.le_refl _⟩ ?_
    show xV (j10_bookLine) X 0 0 (hM c_thrown c_told v37.2.1 c_many c_eights c_gains c_notes c_seen c_turns c_drawn c_state c_tape c_taped c_size v37.2.2.1 v37.2.2.2.1 v37.2.2.2.2.1 v37.2.2.2.2.2.1 v37.2.2.2.2.2.2 v7.2.2.2.2.2.2 c_fives c_isLeft c_wentTimes c_goes c_isLeftLaid c_game c_rows c_columns c_isFound c_bestValue c_bestBelow c_bestShare c_share c_matrix c_system c_shares c_allShares) 40 [(1, .int v7.2.2.2.2.2.2), (0, .ref 0)] [.int v37.1]
    refine xV_istore_n (L' := [(2, .int v37.1), (1, .int v7.2.2.2.2.2.2), (0, .ref 0)]) 41 rfl dX10_bookLine_40 rfl (xlt rfl) rfl ?_
    refine xV_sub [2, 1, 0] rfl ?_
    exact T10_bookLine_b41 hX _ hf
  · have hf := xif_t hf h10
    refine xV_iconst 14 rfl dX10_bookLine_13 xk_i0 ?_
    obtain rfl := Option.some.inj hf
    exact xV_iret hX dX10_bookLine_14 (xbo_ok rfl) (Nat.zero_le _) (Nat.zero_le _)
theorem C10_bookLine (l : Launch) {z : Nat} {c_read : (Nat → Int32)} {c_tape : (Nat → Int32)} {c_size : Int32} {c_from : Int32} {c_next : Int32} {c_token : Int32} {c_value : Int32} {c_fault : Int32} {c_number : Int32} {c_thrown : Int32} {c_told : (Nat → Int32)} {c_many : (Nat → Int32)} {c_eights : (Nat → Int32)} {c_gains : (Nat → Int32)} {c_notes : (Nat → Int32)} {c_seen : (Nat → Int32)} {c_turns : (Nat → Int32)} {c_drawn : (Nat → Int32)} {c_state : Int32} {c_taped : Int32} {c_fives : (Nat → Int32)} {c_isLeft : (Nat → Int32)} {c_wentTimes : Int32} {c_goes : (Nat → Int32)} {c_isLeftLaid : Int32} {c_game : (Nat → Int32)} {c_rows : Int32} {c_columns : Int32} {c_isFound : Int32} {c_bestValue : Int64} {c_bestBelow : Int64} {c_bestShare : (Nat → Int64)} {c_share : (Nat → Int64)} {c_matrix : (Nat → Int64)} {c_system : (Nat → Int64)} {c_shares : (Nat → Int32)} {c_allShares : Int32} {v : Int32 × (Nat → Int32) × Int32 × Int32 × Int32 × Int32 × Int32 × Int32} (hf : F10_bookLine z c_read c_tape c_size c_from c_next c_token c_value c_fault c_number = some v) : xCt l yX10_bookLine ((some .boolean)) j10_bookLine [.ref 0] (hM c_thrown c_told c_read c_many c_eights c_gains c_notes c_seen c_turns c_drawn c_state c_tape c_taped c_size c_from c_next c_token c_value c_fault c_number c_fives c_isLeft c_wentTimes c_goes c_isLeftLaid c_game c_rows c_columns c_isFound c_bestValue c_bestBelow c_bestShare c_share c_matrix c_system c_shares c_allShares) (some (.int v.1)) (hM c_thrown c_told v.2.1 c_many c_eights c_gains c_notes c_seen c_turns c_drawn c_state c_tape c_taped c_size v.2.2.1 v.2.2.2.1 v.2.2.2.2.1 v.2.2.2.2.2.1 v.2.2.2.2.2.2.1 v.2.2.2.2.2.2.2 c_fives c_isLeft c_wentTimes c_goes c_isLeftLaid c_game c_rows c_columns c_isFound c_bestValue c_bestBelow c_bestShare c_share c_matrix c_system c_shares c_allShares) := xCt_of (by decide) rfl (Nat.le_of_ble_eq_true rfl) (fun _ hX => T10_bookLine hX hf)
theorem m10_bookLine : xMd yX10_bookLine RX10 ((some .boolean)) j10_bookLine 0 := ⟨List.mem_of_getElem? (i := 471) (by decide +kernel), List.mem_of_getElem? (i := 5) (by decide +kernel), rfl, by decide +kernel⟩
theorem v10_bookLine : xMv yX10_bookLine RX10 := ⟨List.mem_of_getElem? (i := 469) (by decide +kernel), List.mem_of_getElem? (i := 470) (by decide +kernel)⟩
theorem xk_b119 : (Int8.ofInt (119)).toInt32 = (119 : Int32) := by decide
theorem xk_b101 : (Int8.ofInt (101)).toInt32 = (101 : Int32) := by decide
theorem xk_b105 : (Int8.ofInt (105)).toInt32 = (105 : Int32) := by decide
theorem xk_b103 : (Int8.ofInt (103)).toInt32 = (103 : Int32) := by decide
theorem xk_b104 : (Int8.ofInt (104)).toInt32 = (104 : Int32) := by decide
theorem xk_b116 : (Int8.ofInt (116)).toInt32 = (116 : Int32) := by decide
theorem xk_b99 : (Int8.ofInt (99)).toInt32 = (99 : Int32) := by decide
theorem xk_b16 : (Int8.ofInt (16)).toInt32 = (16 : Int32) := by decide
theorem k10_181 : Cond.methodLink RX10 181 yX10_isWord ∈ wsL_law0 := List.mem_of_getElem? (i := 430) (by decide +kernel)
theorem dX10_entryTold_0 : decode cX10_entryTold 0 = .ok (.aload_n 0, 1) := by decide +kernel
theorem dX10_entryTold_1 : decode cX10_entryTold 1 = .ok (.iload_n 1, 1) := by decide +kernel
theorem dX10_entryTold_2 : decode cX10_entryTold 2 = .ok (.bipush 8, 2) := by decide +kernel
theorem dX10_entryTold_4 : decode cX10_entryTold 4 = .ok (.bipush 7, 2) := by decide +kernel
theorem dX10_entryTold_6 : decode cX10_entryTold 6 = .ok (.bipush 8, 2) := by decide +kernel
theorem dX10_entryTold_8 : decode cX10_entryTold 8 = .ok (.invokevirtual 177, 3) := by decide +kernel
theorem dX10_entryTold_11 : decode cX10_entryTold 11 = .ok (.ifCond .ne 5, 3) := by decide +kernel
theorem dX10_entryTold_14 : decode cX10_entryTold 14 = .ok (.iconst 0, 1) := by decide +kernel
theorem dX10_entryTold_15 : decode cX10_entryTold 15 = .ok (.ireturn, 1) := by decide +kernel
theorem dX10_entryTold_16 : decode cX10_entryTold 16 = .ok (.aload_n 0, 1) := by decide +kernel
theorem dX10_entryTold_17 : decode cX10_entryTold 17 = .ok (.bipush 119, 2) := by decide +kernel
theorem dX10_entryTold_19 : decode cX10_entryTold 19 = .ok (.bipush 101, 2) := by decide +kernel
theorem dX10_entryTold_21 : decode cX10_entryTold 21 = .ok (.bipush 105, 2) := by decide +kernel
theorem dX10_entryTold_23 : decode cX10_entryTold 23 = .ok (.bipush 103, 2) := by decide +kernel
theorem dX10_entryTold_25 : decode cX10_entryTold 25 = .ok (.bipush 104, 2) := by decide +kernel
theorem dX10_entryTold_27 : decode cX10_entryTold 27 = .ok (.bipush 116, 2) := by decide +kernel
theorem dX10_entryTold_29 : decode cX10_entryTold 29 = .ok (.invokevirtual 181, 3) := by decide +kernel
theorem dX10_entryTold_32 : decode cX10_entryTold 32 = .ok (.ifCond .ne 9, 3) := by decide +kernel
theorem dX10_entryTold_35 : decode cX10_entryTold 35 = .ok (.aload_n 0, 1) := by decide +kernel
theorem dX10_entryTold_36 : decode cX10_entryTold 36 = .ok (.iconst 1, 1) := by decide +kernel
theorem dX10_entryTold_37 : decode cX10_entryTold 37 = .ok (.invokevirtual 150, 3) := by decide +kernel
theorem dX10_entryTold_40 : decode cX10_entryTold 40 = .ok (.ireturn, 1) := by decide +kernel
theorem dX10_entryTold_41 : decode cX10_entryTold 41 = .ok (.aload_n 0, 1) := by decide +kernel
theorem dX10_entryTold_42 : decode cX10_entryTold 42 = .ok (.invokevirtual 160, 3) := by decide +kernel
theorem dX10_entryTold_45 : decode cX10_entryTold 45 = .ok (.aload_n 0, 1) := by decide +kernel
theorem dX10_entryTold_46 : decode cX10_entryTold 46 = .ok (.iconst 1, 1) := by decide +kernel
theorem dX10_entryTold_47 : decode cX10_entryTold 47 = .ok (.bipush 99, 2) := by decide +kernel
theorem dX10_entryTold_49 : decode cX10_entryTold 49 = .ok (.invokevirtual 167, 3) := by decide +kernel
theorem dX10_entryTold_52 : decode cX10_entryTold 52 = .ok (.istore_n 2, 1) := by decide +kernel
theorem dX10_entryTold_53 : decode cX10_entryTold 53 = .ok (.aload_n 0, 1) := by decide +kernel
theorem dX10_entryTold_54 : decode cX10_entryTold 54 = .ok (.getfield 21, 3) := by decide +kernel
theorem dX10_entryTold_57 : decode cX10_entryTold 57 = .ok (.iload_n 1, 1) := by decide +kernel
theorem dX10_entryTold_58 : decode cX10_entryTold 58 = .ok (.bipush 16, 2) := by decide +kernel
theorem dX10_entryTold_60 : decode cX10_entryTold 60 = .ok (.invokestatic 109, 3) := by decide +kernel
theorem dX10_entryTold_63 : decode cX10_entryTold 63 = .ok (.aload_n 0, 1) := by decide +kernel
theorem dX10_entryTold_64 : decode cX10_entryTold 64 = .ok (.getfield 21, 3) := by decide +kernel
theorem dX10_entryTold_67 : decode cX10_entryTold 67 = .ok (.iload_n 1, 1) := by decide +kernel
theorem dX10_entryTold_68 : decode cX10_entryTold 68 = .ok (.bipush 7, 2) := by decide +kernel
theorem dX10_entryTold_70 : decode cX10_entryTold 70 = .ok (.invokestatic 109, 3) := by decide +kernel
theorem dX10_entryTold_73 : decode cX10_entryTold 73 = .ok (.iaload, 1) := by decide +kernel
theorem dX10_entryTold_74 : decode cX10_entryTold 74 = .ok (.iadd, 1) := by decide +kernel
theorem dX10_entryTold_75 : decode cX10_entryTold 75 = .ok (.iconst 1, 1) := by decide +kernel
theorem dX10_entryTold_76 : decode cX10_entryTold 76 = .ok (.isub, 1) := by decide +kernel
theorem dX10_entryTold_77 : decode cX10_entryTold 77 = .ok (.aload_n 0, 1) := by decide +kernel
theorem dX10_entryTold_78 : decode cX10_entryTold 78 = .ok (.getfield 153, 3) := by decide +kernel
theorem dX10_entryTold_81 : decode cX10_entryTold 81 = .ok (.iastore, 1) := by decide +kernel
theorem dX10_entryTold_82 : decode cX10_entryTold 82 = .ok (.iload_n 2, 1) := by decide +kernel
theorem dX10_entryTold_83 : decode cX10_entryTold 83 = .ok (.ireturn, 1) := by decide +kernel
abbrev j10_entryTold : xJ := (cX10_entryTold, 3, RX10, 4, 1, 6)
def F10_entryTold (z : Nat) (x1 : Int32) (c_read : (Nat → Int32)) (c_tape : (Nat → Int32)) (c_size : Int32) (c_from : Int32) (c_next : Int32) (c_token : Int32) (c_value : Int32) (c_fault : Int32) (c_number : Int32) : Option (Int32 × (Nat → Int32) × Int32 × Int32 × Int32 × Int32 × Int32 × Int32) :=
  xg (decide (0 + 0 ≤ 1)) ((F10_splitTold z x1 (8 : Int32) (7 : Int32) (8 : Int32) c_read c_tape c_size c_from c_next c_token c_value c_fault).bind (fun v8 => if v8.1 = 0 then (xg (decide (0 ≤ 1)) (some ((0 : Int32), v8.2.1, v8.2.2.1, v8.2.2.2.1, v8.2.2.2.2.1, v8.2.2.2.2.2.1, v8.2.2.2.2.2.2, c_number))) else (xg (decide (0 + 1 ≤ 1)) ((F10_isWord z (119 : Int32) (101 : Int32) (105 : Int32) (103 : Int32) (104 : Int32) (116 : Int32) c_tape c_size v8.2.2.1 v8.2.2.2.1 v8.2.2.2.2.1).bind (fun v29 => if v29 = 0 then (xg (decide ((0 + 1) + 0 ≤ 1)) ((F10_bad (1 : Int32) v8.2.2.1 v8.2.2.2.2.2.2).bind (fun v37 => xg (decide ((0 + 1) ≤ 1)) (xg (xbo v37.1) (some (v37.1, v8.2.1, v8.2.2.1, v8.2.2.2.1, v8.2.2.2.2.1, v8.2.2.2.2.2.1, v37.2, c_number)))))) else (xg (decide ((0 + 1) + 0 ≤ 1)) ((F10_go z c_tape c_size v8.2.2.1 v8.2.2.2.1 v8.2.2.2.2.1 v8.2.2.2.2.2.1).bind (fun v42 => xg (decide ((0 + 1) + 0 ≤ 1)) ((F10_numberIn z (1 : Int32) (99 : Int32) c_tape c_size v42.1 v42.2.1 v42.2.2.1 v42.2.2.2 v8.2.2.2.2.2.2 c_number).bind (fun v49 => xg (decide ((0 + 1) + 0 ≤ 1)) ((F10_at x1 (16 : Int32)).bind (fun v60 => xg (decide ((0 + 1) + 0 ≤ 1)) ((F10_at x1 (7 : Int32)).bind (fun v70 => xg (xin v70 56) (xg (xin ((v60 + (v8.2.1 (xn v70))) - (1 : Int32)) 56) (xg (decide ((0 + 1) ≤ 1)) (xg (xbo v49.1) (some (v49.1, (upd v8.2.1 (xn ((v60 + (v8.2.1 (xn v70))) - (1 : Int32))) v49.2.2.2.2.2.2), v49.2.1, v49.2.2.1, v49.2.2.2.1, v49.2.2.2.2.1, v49.2.2.2.2.2.1, v49.2.2.2.2.2.2)))))))))))))))))))
theorem T10_entryTold {X : xX} {z : Nat} {x1 : Int32} {c_read : (Nat → Int32)} {c_tape : (Nat → Int32)} {c_size : Int32} {c_from : Int32} {c_next : Int32} {c_token : Int32} {c_value : Int32} {c_fault : Int32} {c_number : Int32} {c_thrown : Int32} {c_told : (Nat → Int32)} {c_many : (Nat → Int32)} {c_eights : (Nat → Int32)} {c_gains : (Nat → Int32)} {c_notes : (Nat → Int32)} {c_seen : (Nat → Int32)} {c_turns : (Nat → Int32)} {c_drawn : (Nat → Int32)} {c_state : Int32} {c_taped : Int32} {c_fives : (Nat → Int32)} {c_isLeft : (Nat → Int32)} {c_wentTimes : Int32} {c_goes : (Nat → Int32)} {c_isLeftLaid : Int32} {c_game : (Nat → Int32)} {c_rows : Int32} {c_columns : Int32} {c_isFound : Int32} {c_bestValue : Int64} {c_bestBelow : Int64} {c_bestShare : (Nat → Int64)} {c_share : (Nat → Int64)} {c_matrix : (Nat → Int64)} {c_system : (Nat → Int64)} {c_shares : (Nat → Int32)} {c_allShares : Int32} {v : Int32 × (Nat → Int32) × Int32 × Int32 × Int32 × Int32 × Int32 × Int32} (hX : xIs (j10_entryTold) X ((some .boolean)) (some (.int v.1)) (hM c_thrown c_told v.2.1 c_many c_eights c_gains c_notes c_seen c_turns c_drawn c_state c_tape c_taped c_size v.2.2.1 v.2.2.2.1 v.2.2.2.2.1 v.2.2.2.2.2.1 v.2.2.2.2.2.2.1 v.2.2.2.2.2.2.2 c_fives c_isLeft c_wentTimes c_goes c_isLeftLaid c_game c_rows c_columns c_isFound c_bestValue c_bestBelow c_bestShare c_share c_matrix c_system c_shares c_allShares)) (hf : F10_entryTold z x1 c_read c_tape c_size c_from c_next c_token c_value c_fault c_number = some v) : xV (j10_entryTold) X 0 0 (hM c_thrown c_told c_read c_many c_eights c_gains c_notes c_seen c_turns c_drawn c_state c_tape c_taped c_size c_from c_next c_token c_value c_fault c_number c_fives c_isLeft c_wentTimes c_goes c_isLeftLaid c_game c_rows c_columns c_isFound c_bestValue c_bestBelow c_bestShare c_share c_matrix c_system c_shares c_allShares) 0 [(0, .ref 0), (1, .int x1)] [] := by
  unfold F10_entryTold at hf
  refine xV_aload_n 1 rfl dX10_entryTold_0 rfl 0 rfl ?_
  refine xV_iload_n 2 rfl dX10_entryTold_1 rfl 1 rfl ?_
  refine xV_bipush 4 rfl dX10_entryTold_2 xk_b8 ?_
  refine xV_bipush 6 rfl dX10_entryTold_4 xk_b7 ?_
  refine xV_bipush 8 rfl dX10_entryTold_6 xk_b8 ?_
  obtain ⟨hgc8, hf⟩ := xg_s hf
  obtain ⟨v8, hv8, hf⟩ := xb_s hf
  refine xV_same (rest := []) 11 rfl dX10_entryTold_8 rfl (C10_splitTold X.1.2.1 hv8) m10_splitTold v10_splitTold k10_177 rfl rfl rfl rfl rfl (Nat.le_of_ble_eq_true rfl) (Nat.le_of_ble_eq_true rfl) (Nat.le_of_ble_eq_true rfl) ⟨of_decide_eq_true hgc8, xsixc (of_decide_eq_true hgc8)⟩ ?_
  show xV (j10_entryTold) X 0 (6 * 0) (hM c_thrown c_told v8.2.1 c_many c_eights c_gains c_notes c_seen c_turns c_drawn c_state c_tape c_taped c_size v8.2.2.1 v8.2.2.2.1 v8.2.2.2.2.1 v8.2.2.2.2.2.1 v8.2.2.2.2.2.2 c_number c_fives c_isLeft c_wentTimes c_goes c_isLeftLaid c_game c_rows c_columns c_isFound c_bestValue c_bestBelow c_bestShare c_share c_matrix c_system c_shares c_allShares) 11 [(0, .ref 0), (1, .int x1)] [.int v8.1]
  refine xV_if_ne (tgt := 16) 14 rfl dX10_entryTold_11 (by decide) (fun h11 => ?_) (fun h11 => ?_)
  · have hf := xif_f hf h11
    refine xV_aload_n 17 rfl dX10_entryTold_16 rfl 0 rfl ?_
    refine xV_bipush 19 rfl dX10_entryTold_17 xk_b119 ?_
    refine xV_bipush 21 rfl dX10_entryTold_19 xk_b101 ?_
    refine xV_bipush 23 rfl dX10_entryTold_21 xk_b105 ?_
    refine xV_bipush 25 rfl dX10_entryTold_23 xk_b103 ?_
    refine xV_bipush 27 rfl dX10_entryTold_25 xk_b104 ?_
    refine xV_bipush 29 rfl dX10_entryTold_27 xk_b116 ?_
    obtain ⟨hgc29, hf⟩ := xg_s hf
    obtain ⟨v29, hv29, hf⟩ := xb_s hf
    refine xV_same (rest := []) 32 rfl dX10_entryTold_29 rfl (C10_isWord X.1.2.1 hv29) m10_isWord v10_isWord k10_181 rfl rfl rfl rfl rfl (Nat.le_of_ble_eq_true rfl) (Nat.le_of_ble_eq_true rfl) (Nat.le_of_ble_eq_true rfl) ⟨of_decide_eq_true hgc29, xsixc (of_decide_eq_true hgc29)⟩ ?_
    refine xV_eq (n' := (0 + 1)) (k' := 6 * (0 + 1)) rfl (by first | exact xsixe2 rfl | rfl) ?_
    show xV (j10_entryTold) X (0 + 1) (6 * (0 + 1)) (hM c_thrown c_told v8.2.1 c_many c_eights c_gains c_notes c_seen c_turns c_drawn c_state c_tape c_taped c_size v8.2.2.1 v8.2.2.2.1 v8.2.2.2.2.1 v8.2.2.2.2.2.1 v8.2.2.2.2.2.2 c_number c_fives c_isLeft c_wentTimes c_goes c_isLeftLaid c_game c_rows c_columns c_isFound c_bestValue c_bestBelow c_bestShare c_share c_matrix c_system c_shares c_allShares) 32 [(0, .ref 0), (1, .int x1)] [.int v29]
    refine xV_if_ne (tgt := 41) 35 rfl dX10_entryTold_32 (by decide) (fun h32 => ?_) (fun h32 => ?_)
    · have hf := xif_f hf h32
      refine xV_aload_n 42 rfl dX10_entryTold_41 rfl 0 rfl ?_
      obtain ⟨hgc42, hf⟩ := xg_s hf
      obtain ⟨v42, hv42, hf⟩ := xb_s hf
      refine xV_same (rest := []) 45 rfl dX10_entryTold_42 rfl (C10_go X.1.2.1 hv42) m10_go v10_go k10_160 rfl rfl rfl rfl rfl (Nat.le_of_ble_eq_true rfl) (Nat.le_of_ble_eq_true rfl) (Nat.le_of_ble_eq_true rfl) ⟨of_decide_eq_true hgc42, xsixc (of_decide_eq_true hgc42)⟩ ?_
      show xV (j10_entryTold) X (0 + 1) (6 * (0 + 1)) (hM c_thrown c_told v8.2.1 c_many c_eights c_gains c_notes c_seen c_turns c_drawn c_state c_tape c_taped c_size v42.1 v42.2.1 v42.2.2.1 v42.2.2.2 v8.2.2.2.2.2.2 c_number c_fives c_isLeft c_wentTimes c_goes c_isLeftLaid c_game c_rows c_columns c_isFound c_bestValue c_bestBelow c_bestShare c_share c_matrix c_system c_shares c_allShares) 45 [(0, .ref 0), (1, .int x1)] []
      refine xV_aload_n 46 rfl dX10_entryTold_45 rfl 0 rfl ?_
      refine xV_iconst 47 rfl dX10_entryTold_46 xk_i1 ?_
      refine xV_bipush 49 rfl dX10_entryTold_47 xk_b99 ?_
      obtain ⟨hgc49, hf⟩ := xg_s hf
      obtain ⟨v49, hv49, hf⟩ := xb_s hf
      refine xV_same (rest := []) 52 rfl dX10_entryTold_49 rfl (C10_numberIn X.1.2.1 hv49) m10_numberIn v10_numberIn k10_167 rfl rfl rfl rfl rfl (Nat.le_of_ble_eq_true rfl) (Nat.le_of_ble_eq_true rfl) (Nat.le_of_ble_eq_true rfl) ⟨of_decide_eq_true hgc49, xsixc (of_decide_eq_true hgc49)⟩ ?_
      show xV (j10_entryTold) X (0 + 1) (6 * (0 + 1)) (hM c_thrown c_told v8.2.1 c_many c_eights c_gains c_notes c_seen c_turns c_drawn c_state c_tape c_taped c_size v49.2.1 v49.2.2.1 v49.2.2.2.1 v49.2.2.2.2.1 v49.2.2.2.2.2.1 v49.2.2.2.2.2.2 c_fives c_isLeft c_wentTimes c_goes c_isLeftLaid c_game c_rows c_columns c_isFound c_bestValue c_bestBelow c_bestShare c_share c_matrix c_system c_shares c_allShares) 52 [(0, .ref 0), (1, .int x1)] [.int v49.1]
      refine xV_istore_n (L' := [(2, .int v49.1), (0, .ref 0), (1, .int x1)]) 53 rfl dX10_entryTold_52 rfl (xlt rfl) rfl ?_
      refine xV_aload_n 54 rfl dX10_entryTold_53 rfl 1 rfl ?_
      refine xV_get (v := .ref 2) 57 rfl dX10_entryTold_54 f10_21 rfl rfl ?_
      refine xV_iload_n 58 rfl dX10_entryTold_57 rfl 2 rfl ?_
      refine xV_bipush 60 rfl dX10_entryTold_58 xk_b16 ?_
      obtain ⟨hgc60, hf⟩ := xg_s hf
      obtain ⟨v60, hv60, hf⟩ := xb_s hf
      refine xV_st0 (rest := [.ref 2]) 63 rfl dX10_entryTold_60 rfl (C10_at X.1.2.1 hv60) m10_at s10_at k10_109 rfl (Nat.le_of_ble_eq_true rfl) (Nat.le_of_ble_eq_true rfl) (Nat.le_of_ble_eq_true rfl) ⟨of_decide_eq_true hgc60, xsixc (of_decide_eq_true hgc60)⟩ ?_
      show xV (j10_entryTold) X (0 + 1) (6 * (0 + 1)) (hM c_thrown c_told v8.2.1 c_many c_eights c_gains c_notes c_seen c_turns c_drawn c_state c_tape c_taped c_size v49.2.1 v49.2.2.1 v49.2.2.2.1 v49.2.2.2.2.1 v49.2.2.2.2.2.1 v49.2.2.2.2.2.2 c_fives c_isLeft c_wentTimes c_goes c_isLeftLaid c_game c_rows c_columns c_isFound c_bestValue c_bestBelow c_bestShare c_share c_matrix c_system c_shares c_allShares) 63 [(2, .int v49.1), (0, .ref 0), (1, .int x1)] [.int v60, .ref 2]
      refine xV_aload_n 64 rfl dX10_entryTold_63 rfl 1 rfl ?_
      refine xV_get (v := .ref 2) 67 rfl dX10_entryTold_64 f10_21 rfl rfl ?_
      refine xV_iload_n 68 rfl dX10_entryTold_67 rfl 2 rfl ?_
      refine xV_bipush 70 rfl dX10_entryTold_68 xk_b7 ?_
      obtain ⟨hgc70, hf⟩ := xg_s hf
      obtain ⟨v70, hv70, hf⟩ := xb_s hf
      refine xV_st0 (rest := [.ref 2, .int v60, .ref 2]) 73 rfl dX10_entryTold_70 rfl (C10_at X.1.2.1 hv70) m10_at s10_at k10_109 rfl (Nat.le_of_ble_eq_true rfl) (Nat.le_of_ble_eq_true rfl) (Nat.le_of_ble_eq_true rfl) ⟨of_decide_eq_true hgc70, xsixc (of_decide_eq_true hgc70)⟩ ?_
      show xV (j10_entryTold) X (0 + 1) (6 * (0 + 1)) (hM c_thrown c_told v8.2.1 c_many c_eights c_gains c_notes c_seen c_turns c_drawn c_state c_tape c_taped c_size v49.2.1 v49.2.2.1 v49.2.2.2.1 v49.2.2.2.2.1 v49.2.2.2.2.2.1 v49.2.2.2.2.2.2 c_fives c_isLeft c_wentTimes c_goes c_isLeftLaid c_game c_rows c_columns c_isFound c_bestValue c_bestBelow c_bestShare c_share c_matrix c_system c_shares c_allShares) 73 [(2, .int v49.1), (0, .ref 0), (1, .int x1)] [.int v70, .ref 2, .int v60, .ref 2]
      obtain ⟨hg73, hf⟩ := xg_s hf
      refine xV_iaload 74 rfl dX10_entryTold_73 rfl (xin_ok hg73) rfl ?_
      refine xV_iadd 75 rfl dX10_entryTold_74 ?_
      refine xV_iconst 76 rfl dX10_entryTold_75 xk_i1 ?_
      refine xV_isub 77 rfl dX10_entryTold_76 ?_
      refine xV_aload_n 78 rfl dX10_entryTold_77 rfl 1 rfl ?_
      refine xV_get (v := .int v49.2.2.2.2.2.2) 81 rfl dX10_entryTold_78 f10_153 rfl rfl ?_
      obtain ⟨hg81, hf⟩ := xg_s hf
      refine xV_iastore (h' := (hM c_thrown c_told (upd v8.2.1 (xn ((v60 + (v8.2.1 (xn v70))) - (1 : Int32))) v49.2.2.2.2.2.2) c_many c_eights c_gains c_notes c_seen c_turns c_drawn c_state c_tape c_taped c_size v49.2.1 v49.2.2.1 v49.2.2.2.1 v49.2.2.2.2.1 v49.2.2.2.2.2.1 v49.2.2.2.2.2.2 c_fives c_isLeft c_wentTimes c_goes c_isLeftLaid c_game c_rows c_columns c_isFound c_bestValue c_bestBelow c_bestShare c_share c_matrix c_system c_shares c_allShares)) 82 rfl dX10_entryTold_81 rfl (xin_ok hg81) rfl rfl ?_
      refine xV_iload_n 83 rfl dX10_entryTold_82 rfl 0 rfl ?_
      obtain ⟨hgn, hf⟩ := xg_s hf
      obtain ⟨hgr, hf⟩ := xg_s hf
      obtain rfl := Option.some.inj hf
      exact xV_iret hX dX10_entryTold_83 (xbo_ok hgr) (of_decide_eq_true hgn) (xsix (of_decide_eq_true hgn))
    · have hf := xif_t hf h32
      refine xV_aload_n 36 rfl dX10_entryTold_35 rfl 0 rfl ?_
      refine xV_iconst 37 rfl dX10_entryTold_36 xk_i1 ?_
      obtain ⟨hgc37, hf⟩ := xg_s hf
      obtain ⟨v37, hv37, hf⟩ := xb_s hf
      refine xV_same (rest := []) 40 rfl dX10_entryTold_37 rfl (C10_bad X.1.2.1 hv37) m10_bad v10_bad k10_150 rfl rfl rfl rfl rfl (Nat.le_of_ble_eq_true rfl) (Nat.le_of_ble_eq_true rfl) (Nat.le_of_ble_eq_true rfl) ⟨of_decide_eq_true hgc37, xsixc (of_decide_eq_true hgc37)⟩ ?_
      show xV (j10_entryTold) X (0 + 1) (6 * (0 + 1)) (hM c_thrown c_told v8.2.1 c_many c_eights c_gains c_notes c_seen c_turns c_drawn c_state c_tape c_taped c_size v8.2.2.1 v8.2.2.2.1 v8.2.2.2.2.1 v8.2.2.2.2.2.1 v37.2 c_number c_fives c_isLeft c_wentTimes c_goes c_isLeftLaid c_game c_rows c_columns c_isFound c_bestValue c_bestBelow c_bestShare c_share c_matrix c_system c_shares c_allShares) 40 [(0, .ref 0), (1, .int x1)] [.int v37.1]
      obtain ⟨hgn, hf⟩ := xg_s hf
      obtain ⟨hgr, hf⟩ := xg_s hf
      obtain rfl := Option.some.inj hf
      exact xV_iret hX dX10_entryTold_40 (xbo_ok hgr) (of_decide_eq_true hgn) (xsix (of_decide_eq_true hgn))
  · have hf := xif_t hf h11
    refine xV_iconst 15 rfl dX10_entryTold_14 xk_i0 ?_
    obtain ⟨hgn, hf⟩ := xg_s hf
    obtain rfl := Option.some.inj hf
    exact xV_iret hX dX10_entryTold_15 (xbo_ok rfl) (of_decide_eq_true hgn) (xsix (of_decide_eq_true hgn))
theorem C10_entryTold (l : Launch) {z : Nat} {x1 : Int32} {c_read : (Nat → Int32)} {c_tape : (Nat → Int32)} {c_size : Int32} {c_from : Int32} {c_next : Int32} {c_token : Int32} {c_value : Int32} {c_fault : Int32} {c_number : Int32} {c_thrown : Int32} {c_told : (Nat → Int32)} {c_many : (Nat → Int32)} {c_eights : (Nat → Int32)} {c_gains : (Nat → Int32)} {c_notes : (Nat → Int32)} {c_seen : (Nat → Int32)} {c_turns : (Nat → Int32)} {c_drawn : (Nat → Int32)} {c_state : Int32} {c_taped : Int32} {c_fives : (Nat → Int32)} {c_isLeft : (Nat → Int32)} {c_wentTimes : Int32} {c_goes : (Nat → Int32)} {c_isLeftLaid : Int32} {c_game : (Nat → Int32)} {c_rows : Int32} {c_columns : Int32} {c_isFound : Int32} {c_bestValue : Int64} {c_bestBelow : Int64} {c_bestShare : (Nat → Int64)} {c_share : (Nat → Int64)} {c_matrix : (Nat → Int64)} {c_system : (Nat → Int64)} {c_shares : (Nat → Int32)} {c_allShares : Int32} {v : Int32 × (Nat → Int32) × Int32 × Int32 × Int32 × Int32 × Int32 × Int32} (hf : F10_entryTold z x1 c_read c_tape c_size c_from c_next c_token c_value c_fault c_number = some v) : xCt l yX10_entryTold ((some .boolean)) j10_entryTold [.ref 0, .int x1] (hM c_thrown c_told c_read c_many c_eights c_gains c_notes c_seen c_turns c_drawn c_state c_tape c_taped c_size c_from c_next c_token c_value c_fault c_number c_fives c_isLeft c_wentTimes c_goes c_isLeftLaid c_game c_rows c_columns c_isFound c_bestValue c_bestBelow c_bestShare c_share c_matrix c_system c_shares c_allShares) (some (.int v.1)) (hM c_thrown c_told v.2.1 c_many c_eights c_gains c_notes c_seen c_turns c_drawn c_state c_tape c_taped c_size v.2.2.1 v.2.2.2.1 v.2.2.2.2.1 v.2.2.2.2.2.1 v.2.2.2.2.2.2.1 v.2.2.2.2.2.2.2 c_fives c_isLeft c_wentTimes c_goes c_isLeftLaid c_game c_rows c_columns c_isFound c_bestValue c_bestBelow c_bestShare c_share c_matrix c_system c_shares c_allShares) := xCt_of (by decide) rfl (Nat.le_of_ble_eq_true rfl) (fun _ hX => T10_entryTold hX hf)
theorem m10_entryTold : xMd yX10_entryTold RX10 ((some .boolean)) j10_entryTold 1 := ⟨List.mem_of_getElem? (i := 492) (by decide +kernel), List.mem_of_getElem? (i := 5) (by decide +kernel), rfl, by decide +kernel⟩
theorem v10_entryTold : xMv yX10_entryTold RX10 := ⟨List.mem_of_getElem? (i := 490) (by decide +kernel), List.mem_of_getElem? (i := 491) (by decide +kernel)⟩
theorem k10_185 : Cond.methodLink RX10 185 yX10_entryTold ∈ wsL_law0 := List.mem_of_getElem? (i := 489) (by decide +kernel)
theorem dX10_planLine_0 : decode cX10_planLine 0 = .ok (.aload_n 0, 1) := by decide +kernel
theorem dX10_planLine_1 : decode cX10_planLine 1 = .ok (.invokevirtual 160, 3) := by decide +kernel
theorem dX10_planLine_4 : decode cX10_planLine 4 = .ok (.aload_n 0, 1) := by decide +kernel
theorem dX10_planLine_5 : decode cX10_planLine 5 = .ok (.iconst 0, 1) := by decide +kernel
theorem dX10_planLine_6 : decode cX10_planLine 6 = .ok (.iconst 1, 1) := by decide +kernel
theorem dX10_planLine_7 : decode cX10_planLine 7 = .ok (.invokevirtual 167, 3) := by decide +kernel
theorem dX10_planLine_10 : decode cX10_planLine 10 = .ok (.ifCond .ne 5, 3) := by decide +kernel
theorem dX10_planLine_13 : decode cX10_planLine 13 = .ok (.iconst 0, 1) := by decide +kernel
theorem dX10_planLine_14 : decode cX10_planLine 14 = .ok (.ireturn, 1) := by decide +kernel
theorem dX10_planLine_15 : decode cX10_planLine 15 = .ok (.aload_n 0, 1) := by decide +kernel
theorem dX10_planLine_16 : decode cX10_planLine 16 = .ok (.getfield 153, 3) := by decide +kernel
theorem dX10_planLine_19 : decode cX10_planLine 19 = .ok (.istore_n 1, 1) := by decide +kernel
theorem dX10_planLine_20 : decode cX10_planLine 20 = .ok (.aload_n 0, 1) := by decide +kernel
theorem dX10_planLine_21 : decode cX10_planLine 21 = .ok (.getfield 21, 3) := by decide +kernel
theorem dX10_planLine_24 : decode cX10_planLine 24 = .ok (.iload_n 1, 1) := by decide +kernel
theorem dX10_planLine_25 : decode cX10_planLine 25 = .ok (.bipush 7, 2) := by decide +kernel
theorem dX10_planLine_27 : decode cX10_planLine 27 = .ok (.invokestatic 109, 3) := by decide +kernel
theorem dX10_planLine_30 : decode cX10_planLine 30 = .ok (.iconst 0, 1) := by decide +kernel
theorem dX10_planLine_31 : decode cX10_planLine 31 = .ok (.iastore, 1) := by decide +kernel
theorem dX10_planLine_32 : decode cX10_planLine 32 = .ok (.aload_n 0, 1) := by decide +kernel
theorem dX10_planLine_33 : decode cX10_planLine 33 = .ok (.iload_n 1, 1) := by decide +kernel
theorem dX10_planLine_34 : decode cX10_planLine 34 = .ok (.invokevirtual 185, 3) := by decide +kernel
theorem dX10_planLine_37 : decode cX10_planLine 37 = .ok (.istore_n 2, 1) := by decide +kernel
theorem dX10_planLine_38 : decode cX10_planLine 38 = .ok (.iload_n 2, 1) := by decide +kernel
theorem dX10_planLine_39 : decode cX10_planLine 39 = .ok (.ifCond .eq 20, 3) := by decide +kernel
theorem dX10_planLine_42 : decode cX10_planLine 42 = .ok (.aload_n 0, 1) := by decide +kernel
theorem dX10_planLine_43 : decode cX10_planLine 43 = .ok (.getfield 141, 3) := by decide +kernel
theorem dX10_planLine_46 : decode cX10_planLine 46 = .ok (.iconst 2, 1) := by decide +kernel
theorem dX10_planLine_47 : decode cX10_planLine 47 = .ok (.if_icmp .ne 12, 3) := by decide +kernel
theorem dX10_planLine_50 : decode cX10_planLine 50 = .ok (.aload_n 0, 1) := by decide +kernel
theorem dX10_planLine_51 : decode cX10_planLine 51 = .ok (.iload_n 1, 1) := by decide +kernel
theorem dX10_planLine_52 : decode cX10_planLine 52 = .ok (.invokevirtual 185, 3) := by decide +kernel
theorem dX10_planLine_55 : decode cX10_planLine 55 = .ok (.istore_n 2, 1) := by decide +kernel
theorem dX10_planLine_56 : decode cX10_planLine 56 = .ok (.goto (-18), 3) := by decide +kernel
theorem dX10_planLine_59 : decode cX10_planLine 59 = .ok (.iload_n 2, 1) := by decide +kernel
theorem dX10_planLine_60 : decode cX10_planLine 60 = .ok (.ireturn, 1) := by decide +kernel
abbrev j10_planLine : xJ := (cX10_planLine, 3, RX10, 5, 9, 54)
def F10_planLine_b38 (z : Nat) (w : Nat) (x1 : Int32) (x2 : Int32) (c_read : (Nat → Int32)) (c_tape : (Nat → Int32)) (c_size : Int32) (c_from : Int32) (c_next : Int32) (c_token : Int32) (c_value : Int32) (c_fault : Int32) (c_number : Int32) (cn : Nat) : Option (Int32 × (Nat → Int32) × Int32 × Int32 × Int32 × Int32 × Int32 × Int32) := match w with
  | 0 => none
  | w + 1 => if x2 = 0 then (xg (decide (cn ≤ 9)) (xg (xbo x2) (some (x2, c_read, c_from, c_next, c_token, c_value, c_fault, c_number)))) else (if c_token = (2 : Int32) then (xg (decide (cn + 1 ≤ 9)) ((F10_entryTold z x1 c_read c_tape c_size c_from c_next c_token c_value c_fault c_number).bind (fun v52 => F10_planLine_b38 z w x1 v52.1 v52.2.1 c_tape c_size v52.2.2.1 v52.2.2.2.1 v52.2.2.2.2.1 v52.2.2.2.2.2.1 v52.2.2.2.2.2.2.1 v52.2.2.2.2.2.2.2 ((cn + 1))))) else (xg (decide (cn ≤ 9)) (xg (xbo x2) (some (x2, c_read, c_from, c_next, c_token, c_value, c_fault, c_number)))))
theorem T10_planLine_b38 {X : xX} {c_thrown : Int32} {c_told : (Nat → Int32)} {c_many : (Nat → Int32)} {c_eights : (Nat → Int32)} {c_gains : (Nat → Int32)} {c_notes : (Nat → Int32)} {c_seen : (Nat → Int32)} {c_turns : (Nat → Int32)} {c_drawn : (Nat → Int32)} {c_state : Int32} {c_tape : (Nat → Int32)} {c_taped : Int32} {c_size : Int32} {c_fives : (Nat → Int32)} {c_isLeft : (Nat → Int32)} {c_wentTimes : Int32} {c_goes : (Nat → Int32)} {c_isLeftLaid : Int32} {c_game : (Nat → Int32)} {c_rows : Int32} {c_columns : Int32} {c_isFound : Int32} {c_bestValue : Int64} {c_bestBelow : Int64} {c_bestShare : (Nat → Int64)} {c_share : (Nat → Int64)} {c_matrix : (Nat → Int64)} {c_system : (Nat → Int64)} {c_shares : (Nat → Int32)} {c_allShares : Int32} {z : Nat} {v : Int32 × (Nat → Int32) × Int32 × Int32 × Int32 × Int32 × Int32 × Int32} (hX : xIs (j10_planLine) X ((some .boolean)) (some (.int v.1)) (hM c_thrown c_told v.2.1 c_many c_eights c_gains c_notes c_seen c_turns c_drawn c_state c_tape c_taped c_size v.2.2.1 v.2.2.2.1 v.2.2.2.2.1 v.2.2.2.2.2.1 v.2.2.2.2.2.2.1 v.2.2.2.2.2.2.2 c_fives c_isLeft c_wentTimes c_goes c_isLeftLaid c_game c_rows c_columns c_isFound c_bestValue c_bestBelow c_bestShare c_share c_matrix c_system c_shares c_allShares)) : ∀ (w : Nat) {x1 : Int32} {x2 : Int32} {c_read : (Nat → Int32)} {c_from : Int32} {c_next : Int32} {c_token : Int32} {c_value : Int32} {c_fault : Int32} {c_number : Int32} {cn : Nat}, F10_planLine_b38 z w x1 x2 c_read c_tape c_size c_from c_next c_token c_value c_fault c_number cn = some v → xV (j10_planLine) X cn (6 * cn) (hM c_thrown c_told c_read c_many c_eights c_gains c_notes c_seen c_turns c_drawn c_state c_tape c_taped c_size c_from c_next c_token c_value c_fault c_number c_fives c_isLeft c_wentTimes c_goes c_isLeftLaid c_game c_rows c_columns c_isFound c_bestValue c_bestBelow c_bestShare c_share c_matrix c_system c_shares c_allShares) 38 [(0, .ref 0), (1, .int x1), (2, .int x2)] [] := by
  intro w
  induction w with
  | zero => intro x1 x2 c_read c_from c_next c_token c_value c_fault c_number cn hf; cases hf
  | succ w ih =>
    intro x1 x2 c_read c_from c_next c_token c_value c_fault c_number cn hf
    unfold F10_planLine_b38 at hf
    refine xV_iload_n 39 rfl dX10_planLine_38 rfl 2 rfl ?_
    refine xV_if_eq (tgt := 59) 42 rfl dX10_planLine_39 (by decide) (fun h39 => ?_) (fun h39 => ?_)
    · have hf := xif_t hf h39
      refine xV_iload_n 60 rfl dX10_planLine_59 rfl 2 rfl ?_
      obtain ⟨hgn, hf⟩ := xg_s hf
      obtain ⟨hgr, hf⟩ := xg_s hf
      obtain rfl := Option.some.inj hf
      exact xV_iret hX dX10_planLine_60 (xbo_ok hgr) (of_decide_eq_true hgn) (xsix (of_decide_eq_true hgn))
    · have hf := xif_f hf h39
      refine xV_aload_n 43 rfl dX10_planLine_42 rfl 0 rfl ?_
      refine xV_get (v := .int c_token) 46 rfl dX10_planLine_43 f10_141 rfl rfl ?_
      refine xV_iconst 47 rfl dX10_planLine_46 xk_i2 ?_
      refine xV_icmp_ne (tgt := 59) 50 rfl dX10_planLine_47 (by decide) (fun h47 => ?_) (fun h47 => ?_)
      · have hf := xif_f hf h47
        refine xV_iload_n 60 rfl dX10_planLine_59 rfl 2 rfl ?_
        obtain ⟨hgn, hf⟩ := xg_s hf
        obtain ⟨hgr, hf⟩ := xg_s hf
        obtain rfl := Option.some.inj hf
        exact xV_iret hX dX10_planLine_60 (xbo_ok hgr) (of_decide_eq_true hgn) (xsix (of_decide_eq_true hgn))
      · have hf := xif_t hf h47
        refine xV_aload_n 51 rfl dX10_planLine_50 rfl 0 rfl ?_
        refine xV_iload_n 52 rfl dX10_planLine_51 rfl 1 rfl ?_
        obtain ⟨hgc52, hf⟩ := xg_s hf
        obtain ⟨v52, hv52, hf⟩ := xb_s hf
        refine xV_same (rest := []) 55 rfl dX10_planLine_52 rfl (C10_entryTold X.1.2.1 hv52) m10_entryTold v10_entryTold k10_185 rfl rfl rfl rfl rfl (Nat.le_of_ble_eq_true rfl) (Nat.le_of_ble_eq_true rfl) (Nat.le_of_ble_eq_true rfl) ⟨of_decide_eq_true hgc52, xsixc (of_decide_eq_true hgc52)⟩ ?_
        refine xV_eq (n' := (cn + 1)) (k' := 6 * (cn + 1)) rfl (by first | exact xsixe2 rfl | rfl) ?_
        show xV (j10_planLine) X (cn + 1) (6 * (cn + 1)) (hM c_thrown c_told v52.2.1 c_many c_eights c_gains c_notes c_seen c_turns c_drawn c_state c_tape c_taped c_size v52.2.2.1 v52.2.2.2.1 v52.2.2.2.2.1 v52.2.2.2.2.2.1 v52.2.2.2.2.2.2.1 v52.2.2.2.2.2.2.2 c_fives c_isLeft c_wentTimes c_goes c_isLeftLaid c_game c_rows c_columns c_isFound c_bestValue c_bestBelow c_bestShare c_share c_matrix c_system c_shares c_allShares) 55 [(0, .ref 0), (1, .int x1), (2, .int x2)] [.int v52.1]
        refine xV_istore_n (L' := [(2, .int v52.1), (0, .ref 0), (1, .int x1)]) 56 rfl dX10_planLine_55 rfl (xlt rfl) rfl ?_
        refine xV_goto (tgt := 38) dX10_planLine_56 (by decide) ?_
        refine xV_sub [1, 2, 0] rfl ?_
        exact ih hf
def F10_planLine (z : Nat) (c_read : (Nat → Int32)) (c_tape : (Nat → Int32)) (c_size : Int32) (c_from : Int32) (c_next : Int32) (c_token : Int32) (c_value : Int32) (c_fault : Int32) (c_number : Int32) : Option (Int32 × (Nat → Int32) × Int32 × Int32 × Int32 × Int32 × Int32 × Int32) :=
  xg (decide (0 + 0 ≤ 9)) ((F10_go z c_tape c_size c_from c_next c_token c_value).bind (fun v1 => xg (decide (0 + 0 ≤ 9)) ((F10_numberIn z (0 : Int32) (1 : Int32) c_tape c_size v1.1 v1.2.1 v1.2.2.1 v1.2.2.2 c_fault c_number).bind (fun v7 => if v7.1 = 0 then (xg (decide (0 ≤ 9)) (some ((0 : Int32), c_read, v7.2.1, v7.2.2.1, v7.2.2.2.1, v7.2.2.2.2.1, v7.2.2.2.2.2.1, v7.2.2.2.2.2.2))) else (xg (decide (0 + 0 ≤ 9)) ((F10_at v7.2.2.2.2.2.2 (7 : Int32)).bind (fun v27 => xg (xin v27 56) (xg (decide (0 + 1 ≤ 9)) ((F10_entryTold z v7.2.2.2.2.2.2 (upd c_read (xn v27) (0 : Int32)) c_tape c_size v7.2.1 v7.2.2.1 v7.2.2.2.1 v7.2.2.2.2.1 v7.2.2.2.2.2.1 v7.2.2.2.2.2.2).bind (fun v34 => F10_planLine_b38 z z v7.2.2.2.2.2.2 v34.1 v34.2.1 c_tape c_size v34.2.2.1 v34.2.2.2.1 v34.2.2.2.2.1 v34.2.2.2.2.2.1 v34.2.2.2.2.2.2.1 v34.2.2.2.2.2.2.2 ((0 + 1))))))))))))
theorem T10_planLine {X : xX} {z : Nat} {c_read : (Nat → Int32)} {c_tape : (Nat → Int32)} {c_size : Int32} {c_from : Int32} {c_next : Int32} {c_token : Int32} {c_value : Int32} {c_fault : Int32} {c_number : Int32} {c_thrown : Int32} {c_told : (Nat → Int32)} {c_many : (Nat → Int32)} {c_eights : (Nat → Int32)} {c_gains : (Nat → Int32)} {c_notes : (Nat → Int32)} {c_seen : (Nat → Int32)} {c_turns : (Nat → Int32)} {c_drawn : (Nat → Int32)} {c_state : Int32} {c_taped : Int32} {c_fives : (Nat → Int32)} {c_isLeft : (Nat → Int32)} {c_wentTimes : Int32} {c_goes : (Nat → Int32)} {c_isLeftLaid : Int32} {c_game : (Nat → Int32)} {c_rows : Int32} {c_columns : Int32} {c_isFound : Int32} {c_bestValue : Int64} {c_bestBelow : Int64} {c_bestShare : (Nat → Int64)} {c_share : (Nat → Int64)} {c_matrix : (Nat → Int64)} {c_system : (Nat → Int64)} {c_shares : (Nat → Int32)} {c_allShares : Int32} {v : Int32 × (Nat → Int32) × Int32 × Int32 × Int32 × Int32 × Int32 × Int32} (hX : xIs (j10_planLine) X ((some .boolean)) (some (.int v.1)) (hM c_thrown c_told v.2.1 c_many c_eights c_gains c_notes c_seen c_turns c_drawn c_state c_tape c_taped c_size v.2.2.1 v.2.2.2.1 v.2.2.2.2.1 v.2.2.2.2.2.1 v.2.2.2.2.2.2.1 v.2.2.2.2.2.2.2 c_fives c_isLeft c_wentTimes c_goes c_isLeftLaid c_game c_rows c_columns c_isFound c_bestValue c_bestBelow c_bestShare c_share c_matrix c_system c_shares c_allShares)) (hf : F10_planLine z c_read c_tape c_size c_from c_next c_token c_value c_fault c_number = some v) : xV (j10_planLine) X 0 0 (hM c_thrown c_told c_read c_many c_eights c_gains c_notes c_seen c_turns c_drawn c_state c_tape c_taped c_size c_from c_next c_token c_value c_fault c_number c_fives c_isLeft c_wentTimes c_goes c_isLeftLaid c_game c_rows c_columns c_isFound c_bestValue c_bestBelow c_bestShare c_share c_matrix c_system c_shares c_allShares) 0 [(0, .ref 0)] [] := by
  unfold F10_planLine at hf
  refine xV_aload_n 1 rfl dX10_planLine_0 rfl 0 rfl ?_
  obtain ⟨hgc1, hf⟩ := xg_s hf
  obtain ⟨v1, hv1, hf⟩ := xb_s hf
  refine xV_same (rest := []) 4 rfl dX10_planLine_1 rfl (C10_go X.1.2.1 hv1) m10_go v10_go k10_160 rfl rfl rfl rfl rfl (Nat.le_of_ble_eq_true rfl) (Nat.le_of_ble_eq_true rfl) (Nat.le_of_ble_eq_true rfl) ⟨of_decide_eq_true hgc1, xsixc (of_decide_eq_true hgc1)⟩ ?_
  show xV (j10_planLine) X 0 (6 * 0) (hM c_thrown c_told c_read c_many c_eights c_gains c_notes c_seen c_turns c_drawn c_state c_tape c_taped c_size v1.1 v1.2.1 v1.2.2.1 v1.2.2.2 c_fault c_number c_fives c_isLeft c_wentTimes c_goes c_isLeftLaid c_game c_rows c_columns c_isFound c_bestValue c_bestBelow c_bestShare c_share c_matrix c_system c_shares c_allShares) 4 [(0, .ref 0)] []
  refine xV_aload_n 5 rfl dX10_planLine_4 rfl 0 rfl ?_
  refine xV_iconst 6 rfl dX10_planLine_5 xk_i0 ?_
  refine xV_iconst 7 rfl dX10_planLine_6 xk_i1 ?_
  obtain ⟨hgc7, hf⟩ := xg_s hf
  obtain ⟨v7, hv7, hf⟩ := xb_s hf
  refine xV_same (rest := []) 10 rfl dX10_planLine_7 rfl (C10_numberIn X.1.2.1 hv7) m10_numberIn v10_numberIn k10_167 rfl rfl rfl rfl rfl (Nat.le_of_ble_eq_true rfl) (Nat.le_of_ble_eq_true rfl) (Nat.le_of_ble_eq_true rfl) ⟨of_decide_eq_true hgc7, xsixc (of_decide_eq_true hgc7)⟩ ?_
  show xV (j10_planLine) X 0 (6 * 0) (hM c_thrown c_told c_read c_many c_eights c_gains c_notes c_seen c_turns c_drawn c_state c_tape c_taped c_size v7.2.1 v7.2.2.1 v7.2.2.2.1 v7.2.2.2.2.1 v7.2.2.2.2.2.1 v7.2.2.2.2.2.2 c_fives c_isLeft c_wentTimes c_goes c_isLeftLaid c_game c_rows c_columns c_isFound c_bestValue c_bestBelow c_bestShare c_share c_matrix c_system c_shares c_allShares) 10 [(0, .ref 0)] [.int v7.1]
  refine xV_if_ne (tgt := 15) 13 rfl dX10_planLine_10 (by decide) (fun h10 => ?_) (fun h10 => ?_)
  · have hf := xif_f hf h10
    refine xV_aload_n 16 rfl dX10_planLine_15 rfl 0 rfl ?_
    refine xV_get (v := .int v7.2.2.2.2.2.2) 19 rfl dX10_planLine_16 f10_153 rfl rfl ?_
    refine xV_istore_n (L' := [(1, .int v7.2.2.2.2.2.2), (0, .ref 0)]) 20 rfl dX10_planLine_19 rfl (xlt rfl) rfl ?_
    refine xV_aload_n 21 rfl dX10_planLine_20 rfl 1 rfl ?_
    refine xV_get (v := .ref 2) 24 rfl dX10_planLine_21 f10_21 rfl rfl ?_
    refine xV_iload_n 25 rfl dX10_planLine_24 rfl 0 rfl ?_
    refine xV_bipush 27 rfl dX10_planLine_25 xk_b7 ?_
    obtain ⟨hgc27, hf⟩ := xg_s hf
    obtain ⟨v27, hv27, hf⟩ := xb_s hf
    refine xV_st0 (rest := [.ref 2]) 30 rfl dX10_planLine_27 rfl (C10_at X.1.2.1 hv27) m10_at s10_at k10_109 rfl (Nat.le_of_ble_eq_true rfl) (Nat.le_of_ble_eq_true rfl) (Nat.le_of_ble_eq_true rfl) ⟨of_decide_eq_true hgc27, xsixc (of_decide_eq_true hgc27)⟩ ?_
    show xV (j10_planLine) X 0 (6 * 0) (hM c_thrown c_told c_read c_many c_eights c_gains c_notes c_seen c_turns c_drawn c_state c_tape c_taped c_size v7.2.1 v7.2.2.1 v7.2.2.2.1 v7.2.2.2.2.1 v7.2.2.2.2.2.1 v7.2.2.2.2.2.2 c_fives c_isLeft c_wentTimes c_goes c_isLeftLaid c_game c_rows c_columns c_isFound c_bestValue c_bestBelow c_bestShare c_share c_matrix c_system c_shares c_allShares) 30 [(1, .int v7.2.2.2.2.2.2), (0, .ref 0)] [.int v27, .ref 2]
    refine xV_iconst 31 rfl dX10_planLine_30 xk_i0 ?_
    obtain ⟨hg31, hf⟩ := xg_s hf
    refine xV_iastore (h' := (hM c_thrown c_told (upd c_read (xn v27) (0 : Int32)) c_many c_eights c_gains c_notes c_seen c_turns c_drawn c_state c_tape c_taped c_size v7.2.1 v7.2.2.1 v7.2.2.2.1 v7.2.2.2.2.1 v7.2.2.2.2.2.1 v7.2.2.2.2.2.2 c_fives c_isLeft c_wentTimes c_goes c_isLeftLaid c_game c_rows c_columns c_isFound c_bestValue c_bestBelow c_bestShare c_share c_matrix c_system c_shares c_allShares)) 32 rfl dX10_planLine_31 rfl (xin_ok hg31) rfl rfl ?_
    refine xV_aload_n 33 rfl dX10_planLine_32 rfl 1 rfl ?_
    refine xV_iload_n 34 rfl dX10_planLine_33 rfl 0 rfl ?_
    obtain ⟨hgc34, hf⟩ := xg_s hf
    obtain ⟨v34, hv34, hf⟩ := xb_s hf
    refine xV_same (rest := []) 37 rfl dX10_planLine_34 rfl (C10_entryTold X.1.2.1 hv34) m10_entryTold v10_entryTold k10_185 rfl rfl rfl rfl rfl (Nat.le_of_ble_eq_true rfl) (Nat.le_of_ble_eq_true rfl) (Nat.le_of_ble_eq_true rfl) ⟨of_decide_eq_true hgc34, xsixc (of_decide_eq_true hgc34)⟩ ?_
    refine xV_eq (n' := (0 + 1)) (k' := 6 * (0 + 1)) rfl (by first | exact xsixe2 rfl | rfl) ?_
    show xV (j10_planLine) X (0 + 1) (6 * (0 + 1)) (hM c_thrown c_told v34.2.1 c_many c_eights c_gains c_notes c_seen c_turns c_drawn c_state c_tape c_taped c_size v34.2.2.1 v34.2.2.2.1 v34.2.2.2.2.1 v34.2.2.2.2.2.1 v34.2.2.2.2.2.2.1 v34.2.2.2.2.2.2.2 c_fives c_isLeft c_wentTimes c_goes c_isLeftLaid c_game c_rows c_columns c_isFound c_bestValue c_bestBelow c_bestShare c_share c_matrix c_system c_shares c_allShares) 37 [(1, .int v7.2.2.2.2.2.2), (0, .ref 0)] [.int v34.1]
    refine xV_istore_n (L' := [(2, .int v34.1), (1, .int v7.2.2.2.2.2.2), (0, .ref 0)]) 38 rfl dX10_planLine_37 rfl (xlt rfl) rfl ?_
    refine xV_sub [2, 1, 0] rfl ?_
    exact T10_planLine_b38 hX _ hf
  · have hf := xif_t hf h10
    refine xV_iconst 14 rfl dX10_planLine_13 xk_i0 ?_
    obtain ⟨hgn, hf⟩ := xg_s hf
    obtain rfl := Option.some.inj hf
    exact xV_iret hX dX10_planLine_14 (xbo_ok rfl) (of_decide_eq_true hgn) (xsix (of_decide_eq_true hgn))
theorem C10_planLine (l : Launch) {z : Nat} {c_read : (Nat → Int32)} {c_tape : (Nat → Int32)} {c_size : Int32} {c_from : Int32} {c_next : Int32} {c_token : Int32} {c_value : Int32} {c_fault : Int32} {c_number : Int32} {c_thrown : Int32} {c_told : (Nat → Int32)} {c_many : (Nat → Int32)} {c_eights : (Nat → Int32)} {c_gains : (Nat → Int32)} {c_notes : (Nat → Int32)} {c_seen : (Nat → Int32)} {c_turns : (Nat → Int32)} {c_drawn : (Nat → Int32)} {c_state : Int32} {c_taped : Int32} {c_fives : (Nat → Int32)} {c_isLeft : (Nat → Int32)} {c_wentTimes : Int32} {c_goes : (Nat → Int32)} {c_isLeftLaid : Int32} {c_game : (Nat → Int32)} {c_rows : Int32} {c_columns : Int32} {c_isFound : Int32} {c_bestValue : Int64} {c_bestBelow : Int64} {c_bestShare : (Nat → Int64)} {c_share : (Nat → Int64)} {c_matrix : (Nat → Int64)} {c_system : (Nat → Int64)} {c_shares : (Nat → Int32)} {c_allShares : Int32} {v : Int32 × (Nat → Int32) × Int32 × Int32 × Int32 × Int32 × Int32 × Int32} (hf : F10_planLine z c_read c_tape c_size c_from c_next c_token c_value c_fault c_number = some v) : xCt l yX10_planLine ((some .boolean)) j10_planLine [.ref 0] (hM c_thrown c_told c_read c_many c_eights c_gains c_notes c_seen c_turns c_drawn c_state c_tape c_taped c_size c_from c_next c_token c_value c_fault c_number c_fives c_isLeft c_wentTimes c_goes c_isLeftLaid c_game c_rows c_columns c_isFound c_bestValue c_bestBelow c_bestShare c_share c_matrix c_system c_shares c_allShares) (some (.int v.1)) (hM c_thrown c_told v.2.1 c_many c_eights c_gains c_notes c_seen c_turns c_drawn c_state c_tape c_taped c_size v.2.2.1 v.2.2.2.1 v.2.2.2.2.1 v.2.2.2.2.2.1 v.2.2.2.2.2.2.1 v.2.2.2.2.2.2.2 c_fives c_isLeft c_wentTimes c_goes c_isLeftLaid c_game c_rows c_columns c_isFound c_bestValue c_bestBelow c_bestShare c_share c_matrix c_system c_shares c_allShares) := xCt_of (by decide) rfl (Nat.le_of_ble_eq_true rfl) (fun _ hX => T10_planLine hX hf)
theorem m10_planLine : xMd yX10_planLine RX10 ((some .boolean)) j10_planLine 0 := ⟨List.mem_of_getElem? (i := 488) (by decide +kernel), List.mem_of_getElem? (i := 5) (by decide +kernel), rfl, by decide +kernel⟩
theorem v10_planLine : xMv yX10_planLine RX10 := ⟨List.mem_of_getElem? (i := 486) (by decide +kernel), List.mem_of_getElem? (i := 487) (by decide +kernel)⟩
theorem xk_b102 : (Int8.ofInt (102)).toInt32 = (102 : Int32) := by decide
theorem xk_b108 : (Int8.ofInt (108)).toInt32 = (108 : Int32) := by decide
theorem xk_b100 : (Int8.ofInt (100)).toInt32 = (100 : Int32) := by decide
theorem xk_b115 : (Int8.ofInt (115)).toInt32 = (115 : Int32) := by decide
theorem xk_b111 : (Int8.ofInt (111)).toInt32 = (111 : Int32) := by decide
theorem xk_b114 : (Int8.ofInt (114)).toInt32 = (114 : Int32) := by decide
theorem xk_b98 : (Int8.ofInt (98)).toInt32 = (98 : Int32) := by decide
theorem xk_b107 : (Int8.ofInt (107)).toInt32 = (107 : Int32) := by decide
theorem xk_b112 : (Int8.ofInt (112)).toInt32 = (112 : Int32) := by decide
theorem xk_b110 : (Int8.ofInt (110)).toInt32 = (110 : Int32) := by decide
theorem k10_188 : Cond.methodLink RX10 188 yX10_fieldsLine ∈ wsL_law0 := List.mem_of_getElem? (i := 434) (by decide +kernel)
theorem k10_192 : Cond.methodLink RX10 192 yX10_forcesLine ∈ wsL_law0 := List.mem_of_getElem? (i := 456) (by decide +kernel)
theorem k10_195 : Cond.methodLink RX10 195 yX10_tiesLine ∈ wsL_law0 := List.mem_of_getElem? (i := 464) (by decide +kernel)
theorem k10_198 : Cond.methodLink RX10 198 yX10_bookLine ∈ wsL_law0 := List.mem_of_getElem? (i := 468) (by decide +kernel)
theorem k10_201 : Cond.methodLink RX10 201 yX10_planLine ∈ wsL_law0 := List.mem_of_getElem? (i := 485) (by decide +kernel)
theorem dX10_line_0 : decode cX10_line 0 = .ok (.aload_n 0, 1) := by decide +kernel
theorem dX10_line_1 : decode cX10_line 1 = .ok (.bipush 102, 2) := by decide +kernel
theorem dX10_line_3 : decode cX10_line 3 = .ok (.bipush 105, 2) := by decide +kernel
theorem dX10_line_5 : decode cX10_line 5 = .ok (.bipush 101, 2) := by decide +kernel
theorem dX10_line_7 : decode cX10_line 7 = .ok (.bipush 108, 2) := by decide +kernel
theorem dX10_line_9 : decode cX10_line 9 = .ok (.bipush 100, 2) := by decide +kernel
theorem dX10_line_11 : decode cX10_line 11 = .ok (.bipush 115, 2) := by decide +kernel
theorem dX10_line_13 : decode cX10_line 13 = .ok (.invokevirtual 181, 3) := by decide +kernel
theorem dX10_line_16 : decode cX10_line 16 = .ok (.ifCond .eq 8, 3) := by decide +kernel
theorem dX10_line_19 : decode cX10_line 19 = .ok (.aload_n 0, 1) := by decide +kernel
theorem dX10_line_20 : decode cX10_line 20 = .ok (.invokevirtual 188, 3) := by decide +kernel
theorem dX10_line_23 : decode cX10_line 23 = .ok (.ireturn, 1) := by decide +kernel
theorem dX10_line_24 : decode cX10_line 24 = .ok (.aload_n 0, 1) := by decide +kernel
theorem dX10_line_25 : decode cX10_line 25 = .ok (.bipush 102, 2) := by decide +kernel
theorem dX10_line_27 : decode cX10_line 27 = .ok (.bipush 111, 2) := by decide +kernel
theorem dX10_line_29 : decode cX10_line 29 = .ok (.bipush 114, 2) := by decide +kernel
theorem dX10_line_31 : decode cX10_line 31 = .ok (.bipush 99, 2) := by decide +kernel
theorem dX10_line_33 : decode cX10_line 33 = .ok (.bipush 101, 2) := by decide +kernel
theorem dX10_line_35 : decode cX10_line 35 = .ok (.bipush 115, 2) := by decide +kernel
theorem dX10_line_37 : decode cX10_line 37 = .ok (.invokevirtual 181, 3) := by decide +kernel
theorem dX10_line_40 : decode cX10_line 40 = .ok (.ifCond .eq 8, 3) := by decide +kernel
theorem dX10_line_43 : decode cX10_line 43 = .ok (.aload_n 0, 1) := by decide +kernel
theorem dX10_line_44 : decode cX10_line 44 = .ok (.invokevirtual 192, 3) := by decide +kernel
theorem dX10_line_47 : decode cX10_line 47 = .ok (.ireturn, 1) := by decide +kernel
theorem dX10_line_48 : decode cX10_line 48 = .ok (.aload_n 0, 1) := by decide +kernel
theorem dX10_line_49 : decode cX10_line 49 = .ok (.bipush 116, 2) := by decide +kernel
theorem dX10_line_51 : decode cX10_line 51 = .ok (.bipush 105, 2) := by decide +kernel
theorem dX10_line_53 : decode cX10_line 53 = .ok (.bipush 101, 2) := by decide +kernel
theorem dX10_line_55 : decode cX10_line 55 = .ok (.bipush 115, 2) := by decide +kernel
theorem dX10_line_57 : decode cX10_line 57 = .ok (.iconst 0, 1) := by decide +kernel
theorem dX10_line_58 : decode cX10_line 58 = .ok (.iconst 0, 1) := by decide +kernel
theorem dX10_line_59 : decode cX10_line 59 = .ok (.invokevirtual 181, 3) := by decide +kernel
theorem dX10_line_62 : decode cX10_line 62 = .ok (.ifCond .eq 8, 3) := by decide +kernel
theorem dX10_line_65 : decode cX10_line 65 = .ok (.aload_n 0, 1) := by decide +kernel
theorem dX10_line_66 : decode cX10_line 66 = .ok (.invokevirtual 195, 3) := by decide +kernel
theorem dX10_line_69 : decode cX10_line 69 = .ok (.ireturn, 1) := by decide +kernel
theorem dX10_line_70 : decode cX10_line 70 = .ok (.aload_n 0, 1) := by decide +kernel
theorem dX10_line_71 : decode cX10_line 71 = .ok (.bipush 98, 2) := by decide +kernel
theorem dX10_line_73 : decode cX10_line 73 = .ok (.bipush 111, 2) := by decide +kernel
theorem dX10_line_75 : decode cX10_line 75 = .ok (.bipush 111, 2) := by decide +kernel
theorem dX10_line_77 : decode cX10_line 77 = .ok (.bipush 107, 2) := by decide +kernel
theorem dX10_line_79 : decode cX10_line 79 = .ok (.iconst 0, 1) := by decide +kernel
theorem dX10_line_80 : decode cX10_line 80 = .ok (.iconst 0, 1) := by decide +kernel
theorem dX10_line_81 : decode cX10_line 81 = .ok (.invokevirtual 181, 3) := by decide +kernel
theorem dX10_line_84 : decode cX10_line 84 = .ok (.ifCond .eq 8, 3) := by decide +kernel
theorem dX10_line_87 : decode cX10_line 87 = .ok (.aload_n 0, 1) := by decide +kernel
theorem dX10_line_88 : decode cX10_line 88 = .ok (.invokevirtual 198, 3) := by decide +kernel
theorem dX10_line_91 : decode cX10_line 91 = .ok (.ireturn, 1) := by decide +kernel
theorem dX10_line_92 : decode cX10_line 92 = .ok (.aload_n 0, 1) := by decide +kernel
theorem dX10_line_93 : decode cX10_line 93 = .ok (.bipush 112, 2) := by decide +kernel
theorem dX10_line_95 : decode cX10_line 95 = .ok (.bipush 108, 2) := by decide +kernel
theorem dX10_line_97 : decode cX10_line 97 = .ok (.bipush 97, 2) := by decide +kernel
theorem dX10_line_99 : decode cX10_line 99 = .ok (.bipush 110, 2) := by decide +kernel
theorem dX10_line_101 : decode cX10_line 101 = .ok (.iconst 0, 1) := by decide +kernel
theorem dX10_line_102 : decode cX10_line 102 = .ok (.iconst 0, 1) := by decide +kernel
theorem dX10_line_103 : decode cX10_line 103 = .ok (.invokevirtual 181, 3) := by decide +kernel
theorem dX10_line_106 : decode cX10_line 106 = .ok (.ifCond .eq 10, 3) := by decide +kernel
theorem dX10_line_109 : decode cX10_line 109 = .ok (.aload_n 0, 1) := by decide +kernel
theorem dX10_line_110 : decode cX10_line 110 = .ok (.invokevirtual 201, 3) := by decide +kernel
theorem dX10_line_113 : decode cX10_line 113 = .ok (.goto 8, 3) := by decide +kernel
theorem dX10_line_116 : decode cX10_line 116 = .ok (.aload_n 0, 1) := by decide +kernel
theorem dX10_line_117 : decode cX10_line 117 = .ok (.iconst 1, 1) := by decide +kernel
theorem dX10_line_118 : decode cX10_line 118 = .ok (.invokevirtual 150, 3) := by decide +kernel
theorem dX10_line_121 : decode cX10_line 121 = .ok (.ireturn, 1) := by decide +kernel
abbrev j10_line : xJ := (cX10_line, 1, RX10, 6, 14, 84)
def F10_line (z : Nat) (c_read : (Nat → Int32)) (c_tape : (Nat → Int32)) (c_size : Int32) (c_from : Int32) (c_next : Int32) (c_token : Int32) (c_value : Int32) (c_fault : Int32) (c_number : Int32) : Option (Int32 × (Nat → Int32) × Int32 × Int32 × Int32 × Int32 × Int32 × Int32) :=
  xg (decide (0 + 1 ≤ 14)) ((F10_isWord z (102 : Int32) (105 : Int32) (101 : Int32) (108 : Int32) (100 : Int32) (115 : Int32) c_tape c_size c_from c_next c_token).bind (fun v13 => if v13 = 0 then (xg (decide ((0 + 1) + 1 ≤ 14)) ((F10_isWord z (102 : Int32) (111 : Int32) (114 : Int32) (99 : Int32) (101 : Int32) (115 : Int32) c_tape c_size c_from c_next c_token).bind (fun v37 => if v37 = 0 then (xg (decide (((0 + 1) + 1) + 1 ≤ 14)) ((F10_isWord z (116 : Int32) (105 : Int32) (101 : Int32) (115 : Int32) (0 : Int32) (0 : Int32) c_tape c_size c_from c_next c_token).bind (fun v59 => if v59 = 0 then (xg (decide ((((0 + 1) + 1) + 1) + 1 ≤ 14)) ((F10_isWord z (98 : Int32) (111 : Int32) (111 : Int32) (107 : Int32) (0 : Int32) (0 : Int32) c_tape c_size c_from c_next c_token).bind (fun v81 => if v81 = 0 then (xg (decide (((((0 + 1) + 1) + 1) + 1) + 1 ≤ 14)) ((F10_isWord z (112 : Int32) (108 : Int32) (97 : Int32) (110 : Int32) (0 : Int32) (0 : Int32) c_tape c_size c_from c_next c_token).bind (fun v103 => if v103 = 0 then (xg (decide ((((((0 + 1) + 1) + 1) + 1) + 1) + 0 ≤ 14)) ((F10_bad (1 : Int32) c_from c_fault).bind (fun v118 => xg (decide ((((((0 + 1) + 1) + 1) + 1) + 1) ≤ 14)) (xg (xbo v118.1) (some (v118.1, c_read, c_from, c_next, c_token, c_value, v118.2, c_number)))))) else (xg (decide ((((((0 + 1) + 1) + 1) + 1) + 1) + 9 ≤ 14)) ((F10_planLine z c_read c_tape c_size c_from c_next c_token c_value c_fault c_number).bind (fun v110 => xg (decide (((((((0 + 1) + 1) + 1) + 1) + 1) + 9) ≤ 14)) (xg (xbo v110.1) (some (v110.1, v110.2.1, v110.2.2.1, v110.2.2.2.1, v110.2.2.2.2.1, v110.2.2.2.2.2.1, v110.2.2.2.2.2.2.1, v110.2.2.2.2.2.2.2))))))))) else (xg (decide (((((0 + 1) + 1) + 1) + 1) + 0 ≤ 14)) ((F10_bookLine z c_read c_tape c_size c_from c_next c_token c_value c_fault c_number).bind (fun v88 => xg (decide (((((0 + 1) + 1) + 1) + 1) ≤ 14)) (xg (xbo v88.1) (some (v88.1, v88.2.1, v88.2.2.1, v88.2.2.2.1, v88.2.2.2.2.1, v88.2.2.2.2.2.1, v88.2.2.2.2.2.2.1, v88.2.2.2.2.2.2.2))))))))) else (xg (decide ((((0 + 1) + 1) + 1) + 0 ≤ 14)) ((F10_tiesLine z c_read c_tape c_size c_from c_next c_token c_value c_fault c_number).bind (fun v66 => xg (decide ((((0 + 1) + 1) + 1) ≤ 14)) (xg (xbo v66.1) (some (v66.1, v66.2.1, v66.2.2.1, v66.2.2.2.1, v66.2.2.2.2.1, v66.2.2.2.2.2.1, v66.2.2.2.2.2.2.1, v66.2.2.2.2.2.2.2))))))))) else (xg (decide (((0 + 1) + 1) + 0 ≤ 14)) ((F10_forcesLine z c_read c_tape c_size c_from c_next c_token c_value c_fault c_number).bind (fun v44 => xg (decide (((0 + 1) + 1) ≤ 14)) (xg (xbo v44.1) (some (v44.1, v44.2.1, v44.2.2.1, v44.2.2.2.1, v44.2.2.2.2.1, v44.2.2.2.2.2.1, v44.2.2.2.2.2.2.1, v44.2.2.2.2.2.2.2))))))))) else (xg (decide ((0 + 1) + 0 ≤ 14)) ((F10_fieldsLine z c_read c_tape c_size c_from c_next c_token c_value c_fault c_number).bind (fun v20 => xg (decide ((0 + 1) ≤ 14)) (xg (xbo v20.1) (some (v20.1, v20.2.1, v20.2.2.1, v20.2.2.2.1, v20.2.2.2.2.1, v20.2.2.2.2.2.1, v20.2.2.2.2.2.2.1, v20.2.2.2.2.2.2.2))))))))
theorem T10_line {X : xX} {z : Nat} {c_read : (Nat → Int32)} {c_tape : (Nat → Int32)} {c_size : Int32} {c_from : Int32} {c_next : Int32} {c_token : Int32} {c_value : Int32} {c_fault : Int32} {c_number : Int32} {c_thrown : Int32} {c_told : (Nat → Int32)} {c_many : (Nat → Int32)} {c_eights : (Nat → Int32)} {c_gains : (Nat → Int32)} {c_notes : (Nat → Int32)} {c_seen : (Nat → Int32)} {c_turns : (Nat → Int32)} {c_drawn : (Nat → Int32)} {c_state : Int32} {c_taped : Int32} {c_fives : (Nat → Int32)} {c_isLeft : (Nat → Int32)} {c_wentTimes : Int32} {c_goes : (Nat → Int32)} {c_isLeftLaid : Int32} {c_game : (Nat → Int32)} {c_rows : Int32} {c_columns : Int32} {c_isFound : Int32} {c_bestValue : Int64} {c_bestBelow : Int64} {c_bestShare : (Nat → Int64)} {c_share : (Nat → Int64)} {c_matrix : (Nat → Int64)} {c_system : (Nat → Int64)} {c_shares : (Nat → Int32)} {c_allShares : Int32} {v : Int32 × (Nat → Int32) × Int32 × Int32 × Int32 × Int32 × Int32 × Int32} (hX : xIs (j10_line) X ((some .boolean)) (some (.int v.1)) (hM c_thrown c_told v.2.1 c_many c_eights c_gains c_notes c_seen c_turns c_drawn c_state c_tape c_taped c_size v.2.2.1 v.2.2.2.1 v.2.2.2.2.1 v.2.2.2.2.2.1 v.2.2.2.2.2.2.1 v.2.2.2.2.2.2.2 c_fives c_isLeft c_wentTimes c_goes c_isLeftLaid c_game c_rows c_columns c_isFound c_bestValue c_bestBelow c_bestShare c_share c_matrix c_system c_shares c_allShares)) (hf : F10_line z c_read c_tape c_size c_from c_next c_token c_value c_fault c_number = some v) : xV (j10_line) X 0 0 (hM c_thrown c_told c_read c_many c_eights c_gains c_notes c_seen c_turns c_drawn c_state c_tape c_taped c_size c_from c_next c_token c_value c_fault c_number c_fives c_isLeft c_wentTimes c_goes c_isLeftLaid c_game c_rows c_columns c_isFound c_bestValue c_bestBelow c_bestShare c_share c_matrix c_system c_shares c_allShares) 0 [(0, .ref 0)] [] := by
  unfold F10_line at hf
  refine xV_aload_n 1 rfl dX10_line_0 rfl 0 rfl ?_
  refine xV_bipush 3 rfl dX10_line_1 xk_b102 ?_
  refine xV_bipush 5 rfl dX10_line_3 xk_b105 ?_
  refine xV_bipush 7 rfl dX10_line_5 xk_b101 ?_
  refine xV_bipush 9 rfl dX10_line_7 xk_b108 ?_
  refine xV_bipush 11 rfl dX10_line_9 xk_b100 ?_
  refine xV_bipush 13 rfl dX10_line_11 xk_b115 ?_
  obtain ⟨hgc13, hf⟩ := xg_s hf
  obtain ⟨v13, hv13, hf⟩ := xb_s hf
  refine xV_same (rest := []) 16 rfl dX10_line_13 rfl (C10_isWord X.1.2.1 hv13) m10_isWord v10_isWord k10_181 rfl rfl rfl rfl rfl (Nat.le_of_ble_eq_true rfl) (Nat.le_of_ble_eq_true rfl) (Nat.le_of_ble_eq_true rfl) ⟨of_decide_eq_true hgc13, xsixc (of_decide_eq_true hgc13)⟩ ?_
  refine xV_eq (n' := (0 + 1)) (k' := 6 * (0 + 1)) rfl (by first | exact xsixe2 rfl | rfl) ?_
  show xV (j10_line) X (0 + 1) (6 * (0 + 1)) (hM c_thrown c_told c_read c_many c_eights c_gains c_notes c_seen c_turns c_drawn c_state c_tape c_taped c_size c_from c_next c_token c_value c_fault c_number c_fives c_isLeft c_wentTimes c_goes c_isLeftLaid c_game c_rows c_columns c_isFound c_bestValue c_bestBelow c_bestShare c_share c_matrix c_system c_shares c_allShares) 16 [(0, .ref 0)] [.int v13]
  refine xV_if_eq (tgt := 24) 19 rfl dX10_line_16 (by decide) (fun h16 => ?_) (fun h16 => ?_)
  · have hf := xif_t hf h16
    refine xV_aload_n 25 rfl dX10_line_24 rfl 0 rfl ?_
    refine xV_bipush 27 rfl dX10_line_25 xk_b102 ?_
    refine xV_bipush 29 rfl dX10_line_27 xk_b111 ?_
    refine xV_bipush 31 rfl dX10_line_29 xk_b114 ?_
    refine xV_bipush 33 rfl dX10_line_31 xk_b99 ?_
    refine xV_bipush 35 rfl dX10_line_33 xk_b101 ?_
    refine xV_bipush 37 rfl dX10_line_35 xk_b115 ?_
    obtain ⟨hgc37, hf⟩ := xg_s hf
    obtain ⟨v37, hv37, hf⟩ := xb_s hf
    refine xV_same (rest := []) 40 rfl dX10_line_37 rfl (C10_isWord X.1.2.1 hv37) m10_isWord v10_isWord k10_181 rfl rfl rfl rfl rfl (Nat.le_of_ble_eq_true rfl) (Nat.le_of_ble_eq_true rfl) (Nat.le_of_ble_eq_true rfl) ⟨of_decide_eq_true hgc37, xsixc (of_decide_eq_true hgc37)⟩ ?_
    refine xV_eq (n' := ((0 + 1) + 1)) (k' := 6 * ((0 + 1) + 1)) rfl (by first | exact xsixe2 rfl | rfl) ?_
    show xV (j10_line) X ((0 + 1) + 1) (6 * ((0 + 1) + 1)) (hM c_thrown c_told c_read c_many c_eights c_gains c_notes c_seen c_turns c_drawn c_state c_tape c_taped c_size c_from c_next c_token c_value c_fault c_number c_fives c_isLeft c_wentTimes c_goes c_isLeftLaid c_game c_rows c_columns c_isFound c_bestValue c_bestBelow c_bestShare c_share c_matrix c_system c_shares c_allShares) 40 [(0, .ref 0)] [.int v37]
    refine xV_if_eq (tgt := 48) 43 rfl dX10_line_40 (by decide) (fun h40 => ?_) (fun h40 => ?_)
    · have hf := xif_t hf h40
      refine xV_aload_n 49 rfl dX10_line_48 rfl 0 rfl ?_
      refine xV_bipush 51 rfl dX10_line_49 xk_b116 ?_
      refine xV_bipush 53 rfl dX10_line_51 xk_b105 ?_
      refine xV_bipush 55 rfl dX10_line_53 xk_b101 ?_
      refine xV_bipush 57 rfl dX10_line_55 xk_b115 ?_
      refine xV_iconst 58 rfl dX10_line_57 xk_i0 ?_
      refine xV_iconst 59 rfl dX10_line_58 xk_i0 ?_
      obtain ⟨hgc59, hf⟩ := xg_s hf
      obtain ⟨v59, hv59, hf⟩ := xb_s hf
      refine xV_same (rest := []) 62 rfl dX10_line_59 rfl (C10_isWord X.1.2.1 hv59) m10_isWord v10_isWord k10_181 rfl rfl rfl rfl rfl (Nat.le_of_ble_eq_true rfl) (Nat.le_of_ble_eq_true rfl) (Nat.le_of_ble_eq_true rfl) ⟨of_decide_eq_true hgc59, xsixc (of_decide_eq_true hgc59)⟩ ?_
      refine xV_eq (n' := (((0 + 1) + 1) + 1)) (k' := 6 * (((0 + 1) + 1) + 1)) rfl (by first | exact xsixe2 rfl | rfl) ?_
      show xV (j10_line) X (((0 + 1) + 1) + 1) (6 * (((0 + 1) + 1) + 1)) (hM c_thrown c_told c_read c_many c_eights c_gains c_notes c_seen c_turns c_drawn c_state c_tape c_taped c_size c_from c_next c_token c_value c_fault c_number c_fives c_isLeft c_wentTimes c_goes c_isLeftLaid c_game c_rows c_columns c_isFound c_bestValue c_bestBelow c_bestShare c_share c_matrix c_system c_shares c_allShares) 62 [(0, .ref 0)] [.int v59]
      refine xV_if_eq (tgt := 70) 65 rfl dX10_line_62 (by decide) (fun h62 => ?_) (fun h62 => ?_)
      · have hf := xif_t hf h62
        refine xV_aload_n 71 rfl dX10_line_70 rfl 0 rfl ?_
        refine xV_bipush 73 rfl dX10_line_71 xk_b98 ?_
        refine xV_bipush 75 rfl dX10_line_73 xk_b111 ?_
        refine xV_bipush 77 rfl dX10_line_75 xk_b111 ?_
        refine xV_bipush 79 rfl dX10_line_77 xk_b107 ?_
        refine xV_iconst 80 rfl dX10_line_79 xk_i0 ?_
        refine xV_iconst 81 rfl dX10_line_80 xk_i0 ?_
        obtain ⟨hgc81, hf⟩ := xg_s hf
        obtain ⟨v81, hv81, hf⟩ := xb_s hf
        refine xV_same (rest := []) 84 rfl dX10_line_81 rfl (C10_isWord X.1.2.1 hv81) m10_isWord v10_isWord k10_181 rfl rfl rfl rfl rfl (Nat.le_of_ble_eq_true rfl) (Nat.le_of_ble_eq_true rfl) (Nat.le_of_ble_eq_true rfl) ⟨of_decide_eq_true hgc81, xsixc (of_decide_eq_true hgc81)⟩ ?_
        refine xV_eq (n' := ((((0 + 1) + 1) + 1) + 1)) (k' := 6 * ((((0 + 1) + 1) + 1) + 1)) rfl (by first | exact xsixe2 rfl | rfl) ?_
        show xV (j10_line) X ((((0 + 1) + 1) + 1) + 1) (6 * ((((0 + 1) + 1) + 1) + 1)) (hM c_thrown c_told c_read c_many c_eights c_gains c_notes c_seen c_turns c_drawn c_state c_tape c_taped c_size c_from c_next c_token c_value c_fault c_number c_fives c_isLeft c_wentTimes c_goes c_isLeftLaid c_game c_rows c_columns c_isFound c_bestValue c_bestBelow c_bestShare c_share c_matrix c_system c_shares c_allShares) 84 [(0, .ref 0)] [.int v81]
        refine xV_if_eq (tgt := 92) 87 rfl dX10_line_84 (by decide) (fun h84 => ?_) (fun h84 => ?_)
        · have hf := xif_t hf h84
          refine xV_aload_n 93 rfl dX10_line_92 rfl 0 rfl ?_
          refine xV_bipush 95 rfl dX10_line_93 xk_b112 ?_
          refine xV_bipush 97 rfl dX10_line_95 xk_b108 ?_
          refine xV_bipush 99 rfl dX10_line_97 xk_b97 ?_
          refine xV_bipush 101 rfl dX10_line_99 xk_b110 ?_
          refine xV_iconst 102 rfl dX10_line_101 xk_i0 ?_
          refine xV_iconst 103 rfl dX10_line_102 xk_i0 ?_
          obtain ⟨hgc103, hf⟩ := xg_s hf
          obtain ⟨v103, hv103, hf⟩ := xb_s hf
          refine xV_same (rest := []) 106 rfl dX10_line_103 rfl (C10_isWord X.1.2.1 hv103) m10_isWord v10_isWord k10_181 rfl rfl rfl rfl rfl (Nat.le_of_ble_eq_true rfl) (Nat.le_of_ble_eq_true rfl) (Nat.le_of_ble_eq_true rfl) ⟨of_decide_eq_true hgc103, xsixc (of_decide_eq_true hgc103)⟩ ?_
          refine xV_eq (n' := (((((0 + 1) + 1) + 1) + 1) + 1)) (k' := 6 * (((((0 + 1) + 1) + 1) + 1) + 1)) rfl (by first | exact xsixe2 rfl | rfl) ?_
          show xV (j10_line) X (((((0 + 1) + 1) + 1) + 1) + 1) (6 * (((((0 + 1) + 1) + 1) + 1) + 1)) (hM c_thrown c_told c_read c_many c_eights c_gains c_notes c_seen c_turns c_drawn c_state c_tape c_taped c_size c_from c_next c_token c_value c_fault c_number c_fives c_isLeft c_wentTimes c_goes c_isLeftLaid c_game c_rows c_columns c_isFound c_bestValue c_bestBelow c_bestShare c_share c_matrix c_system c_shares c_allShares) 106 [(0, .ref 0)] [.int v103]
          refine xV_if_eq (tgt := 116) 109 rfl dX10_line_106 (by decide) (fun h106 => ?_) (fun h106 => ?_)
          · have hf := xif_t hf h106
            refine xV_aload_n 117 rfl dX10_line_116 rfl 0 rfl ?_
            refine xV_iconst 118 rfl dX10_line_117 xk_i1 ?_
            obtain ⟨hgc118, hf⟩ := xg_s hf
            obtain ⟨v118, hv118, hf⟩ := xb_s hf
            refine xV_same (rest := []) 121 rfl dX10_line_118 rfl (C10_bad X.1.2.1 hv118) m10_bad v10_bad k10_150 rfl rfl rfl rfl rfl (Nat.le_of_ble_eq_true rfl) (Nat.le_of_ble_eq_true rfl) (Nat.le_of_ble_eq_true rfl) ⟨of_decide_eq_true hgc118, xsixc (of_decide_eq_true hgc118)⟩ ?_
            show xV (j10_line) X (((((0 + 1) + 1) + 1) + 1) + 1) (6 * (((((0 + 1) + 1) + 1) + 1) + 1)) (hM c_thrown c_told c_read c_many c_eights c_gains c_notes c_seen c_turns c_drawn c_state c_tape c_taped c_size c_from c_next c_token c_value v118.2 c_number c_fives c_isLeft c_wentTimes c_goes c_isLeftLaid c_game c_rows c_columns c_isFound c_bestValue c_bestBelow c_bestShare c_share c_matrix c_system c_shares c_allShares) 121 [(0, .ref 0)] [.int v118.1]
            obtain ⟨hgn, hf⟩ := xg_s hf
            obtain ⟨hgr, hf⟩ := xg_s hf
            obtain rfl := Option.some.inj hf
            exact xV_iret hX dX10_line_121 (xbo_ok hgr) (of_decide_eq_true hgn) (xsix (of_decide_eq_true hgn))
          · have hf := xif_f hf h106
            refine xV_aload_n 110 rfl dX10_line_109 rfl 0 rfl ?_
            obtain ⟨hgc110, hf⟩ := xg_s hf
            obtain ⟨v110, hv110, hf⟩ := xb_s hf
            refine xV_same (rest := []) 113 rfl dX10_line_110 rfl (C10_planLine X.1.2.1 hv110) m10_planLine v10_planLine k10_201 rfl rfl rfl rfl rfl (Nat.le_of_ble_eq_true rfl) (Nat.le_of_ble_eq_true rfl) (Nat.le_of_ble_eq_true rfl) ⟨of_decide_eq_true hgc110, xsixc (of_decide_eq_true hgc110)⟩ ?_
            refine xV_eq (n' := ((((((0 + 1) + 1) + 1) + 1) + 1) + 9)) (k' := 6 * ((((((0 + 1) + 1) + 1) + 1) + 1) + 9)) rfl (by first | exact xsixe2 rfl | rfl) ?_
            show xV (j10_line) X ((((((0 + 1) + 1) + 1) + 1) + 1) + 9) (6 * ((((((0 + 1) + 1) + 1) + 1) + 1) + 9)) (hM c_thrown c_told v110.2.1 c_many c_eights c_gains c_notes c_seen c_turns c_drawn c_state c_tape c_taped c_size v110.2.2.1 v110.2.2.2.1 v110.2.2.2.2.1 v110.2.2.2.2.2.1 v110.2.2.2.2.2.2.1 v110.2.2.2.2.2.2.2 c_fives c_isLeft c_wentTimes c_goes c_isLeftLaid c_game c_rows c_columns c_isFound c_bestValue c_bestBelow c_bestShare c_share c_matrix c_system c_shares c_allShares) 113 [(0, .ref 0)] [.int v110.1]
            refine xV_goto (tgt := 121) dX10_line_113 (by decide) ?_
            obtain ⟨hgn, hf⟩ := xg_s hf
            obtain ⟨hgr, hf⟩ := xg_s hf
            obtain rfl := Option.some.inj hf
            exact xV_iret hX dX10_line_121 (xbo_ok hgr) (of_decide_eq_true hgn) (xsix (of_decide_eq_true hgn))
        · have hf := xif_f hf h84
          refine xV_aload_n 88 rfl dX10_line_87 rfl 0 rfl ?_
          obtain ⟨hgc88, hf⟩ := xg_s hf
          obtain ⟨v88, hv88, hf⟩ := xb_s hf
          refine xV_same (rest := []) 91 rfl dX10_line_88 rfl (C10_bookLine X.1.2.1 hv88) m10_bookLine v10_bookLine k10_198 rfl rfl rfl rfl rfl (Nat.le_of_ble_eq_true rfl) (Nat.le_of_ble_eq_true rfl) (Nat.le_of_ble_eq_true rfl) ⟨of_decide_eq_true hgc88, xsixc (of_decide_eq_true hgc88)⟩ ?_
          show xV (j10_line) X ((((0 + 1) + 1) + 1) + 1) (6 * ((((0 + 1) + 1) + 1) + 1)) (hM c_thrown c_told v88.2.1 c_many c_eights c_gains c_notes c_seen c_turns c_drawn c_state c_tape c_taped c_size v88.2.2.1 v88.2.2.2.1 v88.2.2.2.2.1 v88.2.2.2.2.2.1 v88.2.2.2.2.2.2.1 v88.2.2.2.2.2.2.2 c_fives c_isLeft c_wentTimes c_goes c_isLeftLaid c_game c_rows c_columns c_isFound c_bestValue c_bestBelow c_bestShare c_share c_matrix c_system c_shares c_allShares) 91 [(0, .ref 0)] [.int v88.1]
          obtain ⟨hgn, hf⟩ := xg_s hf
          obtain ⟨hgr, hf⟩ := xg_s hf
          obtain rfl := Option.some.inj hf
          exact xV_iret hX dX10_line_91 (xbo_ok hgr) (of_decide_eq_true hgn) (xsix (of_decide_eq_true hgn))
      · have hf := xif_f hf h62
        refine xV_aload_n 66 rfl dX10_line_65 rfl 0 rfl ?_
        obtain ⟨hgc66, hf⟩ := xg_s hf
        obtain ⟨v66, hv66, hf⟩ := xb_s hf
        refine xV_same (rest := []) 69 rfl dX10_line_66 rfl (C10_tiesLine X.1.2.1 hv66) m10_tiesLine v10_tiesLine k10_195 rfl rfl rfl rfl rfl (Nat.le_of_ble_eq_true rfl) (Nat.le_of_ble_eq_true rfl) (Nat.le_of_ble_eq_true rfl) ⟨of_decide_eq_true hgc66, xsixc (of_decide_eq_true hgc66)⟩ ?_
        show xV (j10_line) X (((0 + 1) + 1) + 1) (6 * (((0 + 1) + 1) + 1)) (hM c_thrown c_told v66.2.1 c_many c_eights c_gains c_notes c_seen c_turns c_drawn c_state c_tape c_taped c_size v66.2.2.1 v66.2.2.2.1 v66.2.2.2.2.1 v66.2.2.2.2.2.1 v66.2.2.2.2.2.2.1 v66.2.2.2.2.2.2.2 c_fives c_isLeft c_wentTimes c_goes c_isLeftLaid c_game c_rows c_columns c_isFound c_bestValue c_bestBelow c_bestShare c_share c_matrix c_system c_shares c_allShares) 69 [(0, .ref 0)] [.int v66.1]
        obtain ⟨hgn, hf⟩ := xg_s hf
        obtain ⟨hgr, hf⟩ := xg_s hf
        obtain rfl := Option.some.inj hf
        exact xV_iret hX dX10_line_69 (xbo_ok hgr) (of_decide_eq_true hgn) (xsix (of_decide_eq_true hgn))
    · have hf := xif_f hf h40
      refine xV_aload_n 44 rfl dX10_line_43 rfl 0 rfl ?_
      obtain ⟨hgc44, hf⟩ := xg_s hf
      obtain ⟨v44, hv44, hf⟩ := xb_s hf
      refine xV_same (rest := []) 47 rfl dX10_line_44 rfl (C10_forcesLine X.1.2.1 hv44) m10_forcesLine v10_forcesLine k10_192 rfl rfl rfl rfl rfl (Nat.le_of_ble_eq_true rfl) (Nat.le_of_ble_eq_true rfl) (Nat.le_of_ble_eq_true rfl) ⟨of_decide_eq_true hgc44, xsixc (of_decide_eq_true hgc44)⟩ ?_
      show xV (j10_line) X ((0 + 1) + 1) (6 * ((0 + 1) + 1)) (hM c_thrown c_told v44.2.1 c_many c_eights c_gains c_notes c_seen c_turns c_drawn c_state c_tape c_taped c_size v44.2.2.1 v44.2.2.2.1 v44.2.2.2.2.1 v44.2.2.2.2.2.1 v44.2.2.2.2.2.2.1 v44.2.2.2.2.2.2.2 c_fives c_isLeft c_wentTimes c_goes c_isLeftLaid c_game c_rows c_columns c_isFound c_bestValue c_bestBelow c_bestShare c_share c_matrix c_system c_shares c_allShares) 47 [(0, .ref 0)] [.int v44.1]
      obtain ⟨hgn, hf⟩ := xg_s hf
      obtain ⟨hgr, hf⟩ := xg_s hf
      obtain rfl := Option.some.inj hf
      exact xV_iret hX dX10_line_47 (xbo_ok hgr) (of_decide_eq_true hgn) (xsix (of_decide_eq_true hgn))
  · have hf := xif_f hf h16
    refine xV_aload_n 20 rfl dX10_line_19 rfl 0 rfl ?_
    obtain ⟨hgc20, hf⟩ := xg_s hf
    obtain ⟨v20, hv20, hf⟩ := xb_s hf
    refine xV_same (rest := []) 23 rfl dX10_line_20 rfl (C10_fieldsLine X.1.2.1 hv20) m10_fieldsLine v10_fieldsLine k10_188 rfl rfl rfl rfl rfl (Nat.le_of_ble_eq_true rfl) (Nat.le_of_ble_eq_true rfl) (Nat.le_of_ble_eq_true rfl) ⟨of_decide_eq_true hgc20, xsixc (of_decide_eq_true hgc20)⟩ ?_
    show xV (j10_line) X (0 + 1) (6 * (0 + 1)) (hM c_thrown c_told v20.2.1 c_many c_eights c_gains c_notes c_seen c_turns c_drawn c_state c_tape c_taped c_size v20.2.2.1 v20.2.2.2.1 v20.2.2.2.2.1 v20.2.2.2.2.2.1 v20.2.2.2.2.2.2.1 v20.2.2.2.2.2.2.2 c_fives c_isLeft c_wentTimes c_goes c_isLeftLaid c_game c_rows c_columns c_isFound c_bestValue c_bestBelow c_bestShare c_share c_matrix c_system c_shares c_allShares) 23 [(0, .ref 0)] [.int v20.1]
    obtain ⟨hgn, hf⟩ := xg_s hf
    obtain ⟨hgr, hf⟩ := xg_s hf
    obtain rfl := Option.some.inj hf
    exact xV_iret hX dX10_line_23 (xbo_ok hgr) (of_decide_eq_true hgn) (xsix (of_decide_eq_true hgn))
theorem C10_line (l : Launch) {z : Nat} {c_read : (Nat → Int32)} {c_tape : (Nat → Int32)} {c_size : Int32} {c_from : Int32} {c_next : Int32} {c_token : Int32} {c_value : Int32} {c_fault : Int32} {c_number : Int32} {c_thrown : Int32} {c_told : (Nat → Int32)} {c_many : (Nat → Int32)} {c_eights : (Nat → Int32)} {c_gains : (Nat → Int32)} {c_notes : (Nat → Int32)} {c_seen : (Nat → Int32)} {c_turns : (Nat → Int32)} {c_drawn : (Nat → Int32)} {c_state : Int32} {c_taped : Int32} {c_fives : (Nat → Int32)} {c_isLeft : (Nat → Int32)} {c_wentTimes : Int32} {c_goes : (Nat → Int32)} {c_isLeftLaid : Int32} {c_game : (Nat → Int32)} {c_rows : Int32} {c_columns : Int32} {c_isFound : Int32} {c_bestValue : Int64} {c_bestBelow : Int64} {c_bestShare : (Nat → Int64)} {c_share : (Nat → Int64)} {c_matrix : (Nat → Int64)} {c_system : (Nat → Int64)} {c_shares : (Nat → Int32)} {c_allShares : Int32} {v : Int32 × (Nat → Int32) × Int32 × Int32 × Int32 × Int32 × Int32 × Int32} (hf : F10_line z c_read c_tape c_size c_from c_next c_token c_value c_fault c_number = some v) : xCt l yX10_line ((some .boolean)) j10_line [.ref 0] (hM c_thrown c_told c_read c_many c_eights c_gains c_notes c_seen c_turns c_drawn c_state c_tape c_taped c_size c_from c_next c_token c_value c_fault c_number c_fives c_isLeft c_wentTimes c_goes c_isLeftLaid c_game c_rows c_columns c_isFound c_bestValue c_bestBelow c_bestShare c_share c_matrix c_system c_shares c_allShares) (some (.int v.1)) (hM c_thrown c_told v.2.1 c_many c_eights c_gains c_notes c_seen c_turns c_drawn c_state c_tape c_taped c_size v.2.2.1 v.2.2.2.1 v.2.2.2.2.1 v.2.2.2.2.2.1 v.2.2.2.2.2.2.1 v.2.2.2.2.2.2.2 c_fives c_isLeft c_wentTimes c_goes c_isLeftLaid c_game c_rows c_columns c_isFound c_bestValue c_bestBelow c_bestShare c_share c_matrix c_system c_shares c_allShares) := xCt_of (by decide) rfl (Nat.le_of_ble_eq_true rfl) (fun _ hX => T10_line hX hf)
theorem m10_line : xMd yX10_line RX10 ((some .boolean)) j10_line 0 := ⟨List.mem_of_getElem? (i := 429) (by decide +kernel), List.mem_of_getElem? (i := 5) (by decide +kernel), rfl, by decide +kernel⟩
theorem v10_line : xMv yX10_line RX10 := ⟨List.mem_of_getElem? (i := 427) (by decide +kernel), List.mem_of_getElem? (i := 428) (by decide +kernel)⟩
theorem xk_b56 : (Int8.ofInt (56)).toInt32 = (56 : Int32) := by decide
theorem xk_bm2 : (Int8.ofInt (-2)).toInt32 = (-2 : Int32) := by decide
theorem nf10_13 : ∀ q : vw_C, vwCl[10]? = some q → (q.2.1 13).2.2.2 = false := fun q e => by cases e; rfl
theorem k10_204 : Cond.methodLink RX10 204 yX10_line ∈ wsL_law0 := List.mem_of_getElem? (i := 426) (by decide +kernel)
theorem dX10_text_0 : decode cX10_text 0 = .ok (.aload_n 0, 1) := by decide +kernel
theorem dX10_text_1 : decode cX10_text 1 = .ok (.iconst 0, 1) := by decide +kernel
theorem dX10_text_2 : decode cX10_text 2 = .ok (.putfield 1, 3) := by decide +kernel
theorem dX10_text_5 : decode cX10_text 5 = .ok (.iload_n 1, 1) := by decide +kernel
theorem dX10_text_6 : decode cX10_text 6 = .ok (.iconst 0, 1) := by decide +kernel
theorem dX10_text_7 : decode cX10_text 7 = .ok (.aload_n 0, 1) := by decide +kernel
theorem dX10_text_8 : decode cX10_text 8 = .ok (.getfield 123, 3) := by decide +kernel
theorem dX10_text_11 : decode cX10_text 11 = .ok (.invokestatic 7, 3) := by decide +kernel
theorem dX10_text_14 : decode cX10_text 14 = .ok (.ifCond .ne 5, 3) := by decide +kernel
theorem dX10_text_17 : decode cX10_text 17 = .ok (.iconst (-1), 1) := by decide +kernel
theorem dX10_text_18 : decode cX10_text 18 = .ok (.ireturn, 1) := by decide +kernel
theorem dX10_text_19 : decode cX10_text 19 = .ok (.aload_n 0, 1) := by decide +kernel
theorem dX10_text_20 : decode cX10_text 20 = .ok (.iload_n 1, 1) := by decide +kernel
theorem dX10_text_21 : decode cX10_text 21 = .ok (.putfield 129, 3) := by decide +kernel
theorem dX10_text_24 : decode cX10_text 24 = .ok (.aload_n 0, 1) := by decide +kernel
theorem dX10_text_25 : decode cX10_text 25 = .ok (.iconst 0, 1) := by decide +kernel
theorem dX10_text_26 : decode cX10_text 26 = .ok (.putfield 123, 3) := by decide +kernel
theorem dX10_text_29 : decode cX10_text 29 = .ok (.aload_n 0, 1) := by decide +kernel
theorem dX10_text_30 : decode cX10_text 30 = .ok (.iconst 0, 1) := by decide +kernel
theorem dX10_text_31 : decode cX10_text 31 = .ok (.putfield 132, 3) := by decide +kernel
theorem dX10_text_34 : decode cX10_text 34 = .ok (.aload_n 0, 1) := by decide +kernel
theorem dX10_text_35 : decode cX10_text 35 = .ok (.iconst 0, 1) := by decide +kernel
theorem dX10_text_36 : decode cX10_text 36 = .ok (.putfield 147, 3) := by decide +kernel
theorem dX10_text_39 : decode cX10_text 39 = .ok (.iconst 0, 1) := by decide +kernel
theorem dX10_text_40 : decode cX10_text 40 = .ok (.istore_n 2, 1) := by decide +kernel
theorem dX10_text_41 : decode cX10_text 41 = .ok (.iload_n 2, 1) := by decide +kernel
theorem dX10_text_42 : decode cX10_text 42 = .ok (.bipush 56, 2) := by decide +kernel
theorem dX10_text_44 : decode cX10_text 44 = .ok (.if_icmp .ge 21, 3) := by decide +kernel
theorem dX10_text_47 : decode cX10_text 47 = .ok (.aload_n 0, 1) := by decide +kernel
theorem dX10_text_48 : decode cX10_text 48 = .ok (.getfield 21, 3) := by decide +kernel
theorem dX10_text_51 : decode cX10_text 51 = .ok (.iload_n 2, 1) := by decide +kernel
theorem dX10_text_52 : decode cX10_text 52 = .ok (.aload_n 0, 1) := by decide +kernel
theorem dX10_text_53 : decode cX10_text 53 = .ok (.getfield 17, 3) := by decide +kernel
theorem dX10_text_56 : decode cX10_text 56 = .ok (.iload_n 2, 1) := by decide +kernel
theorem dX10_text_57 : decode cX10_text 57 = .ok (.iaload, 1) := by decide +kernel
theorem dX10_text_58 : decode cX10_text 58 = .ok (.iastore, 1) := by decide +kernel
theorem dX10_text_59 : decode cX10_text 59 = .ok (.iinc 2 1, 3) := by decide +kernel
theorem dX10_text_62 : decode cX10_text 62 = .ok (.goto (-21), 3) := by decide +kernel
theorem dX10_text_65 : decode cX10_text 65 = .ok (.aload_n 0, 1) := by decide +kernel
theorem dX10_text_66 : decode cX10_text 66 = .ok (.invokevirtual 160, 3) := by decide +kernel
theorem dX10_text_69 : decode cX10_text 69 = .ok (.iconst 1, 1) := by decide +kernel
theorem dX10_text_70 : decode cX10_text 70 = .ok (.istore_n 2, 1) := by decide +kernel
theorem dX10_text_71 : decode cX10_text 71 = .ok (.aload_n 0, 1) := by decide +kernel
theorem dX10_text_72 : decode cX10_text 72 = .ok (.invokevirtual 204, 3) := by decide +kernel
theorem dX10_text_75 : decode cX10_text 75 = .ok (.istore_n 3, 1) := by decide +kernel
theorem dX10_text_76 : decode cX10_text 76 = .ok (.iload_n 3, 1) := by decide +kernel
theorem dX10_text_77 : decode cX10_text 77 = .ok (.ifCond .eq 26, 3) := by decide +kernel
theorem dX10_text_80 : decode cX10_text 80 = .ok (.aload_n 0, 1) := by decide +kernel
theorem dX10_text_81 : decode cX10_text 81 = .ok (.getfield 141, 3) := by decide +kernel
theorem dX10_text_84 : decode cX10_text 84 = .ok (.iconst 3, 1) := by decide +kernel
theorem dX10_text_85 : decode cX10_text 85 = .ok (.if_icmp .ne 18, 3) := by decide +kernel
theorem dX10_text_88 : decode cX10_text 88 = .ok (.aload_n 0, 1) := by decide +kernel
theorem dX10_text_89 : decode cX10_text 89 = .ok (.invokevirtual 160, 3) := by decide +kernel
theorem dX10_text_92 : decode cX10_text 92 = .ok (.aload_n 0, 1) := by decide +kernel
theorem dX10_text_93 : decode cX10_text 93 = .ok (.invokevirtual 204, 3) := by decide +kernel
theorem dX10_text_96 : decode cX10_text 96 = .ok (.istore_n 3, 1) := by decide +kernel
theorem dX10_text_97 : decode cX10_text 97 = .ok (.iinc 2 1, 3) := by decide +kernel
theorem dX10_text_100 : decode cX10_text 100 = .ok (.goto (-24), 3) := by decide +kernel
theorem dX10_text_103 : decode cX10_text 103 = .ok (.iload_n 3, 1) := by decide +kernel
theorem dX10_text_104 : decode cX10_text 104 = .ok (.ifCond .eq 16, 3) := by decide +kernel
theorem dX10_text_107 : decode cX10_text 107 = .ok (.aload_n 0, 1) := by decide +kernel
theorem dX10_text_108 : decode cX10_text 108 = .ok (.getfield 141, 3) := by decide +kernel
theorem dX10_text_111 : decode cX10_text 111 = .ok (.ifCond .eq 9, 3) := by decide +kernel
theorem dX10_text_114 : decode cX10_text 114 = .ok (.aload_n 0, 1) := by decide +kernel
theorem dX10_text_115 : decode cX10_text 115 = .ok (.iconst 1, 1) := by decide +kernel
theorem dX10_text_116 : decode cX10_text 116 = .ok (.invokevirtual 150, 3) := by decide +kernel
theorem dX10_text_119 : decode cX10_text 119 = .ok (.istore_n 3, 1) := by decide +kernel
theorem dX10_text_120 : decode cX10_text 120 = .ok (.iload_n 3, 1) := by decide +kernel
theorem dX10_text_121 : decode cX10_text 121 = .ok (.ifCond .ne 11, 3) := by decide +kernel
theorem dX10_text_124 : decode cX10_text 124 = .ok (.bipush (-2), 2) := by decide +kernel
theorem dX10_text_126 : decode cX10_text 126 = .ok (.aload_n 0, 1) := by decide +kernel
theorem dX10_text_127 : decode cX10_text 127 = .ok (.getfield 147, 3) := by decide +kernel
theorem dX10_text_130 : decode cX10_text 130 = .ok (.isub, 1) := by decide +kernel
theorem dX10_text_131 : decode cX10_text 131 = .ok (.ireturn, 1) := by decide +kernel
theorem dX10_text_132 : decode cX10_text 132 = .ok (.iconst 0, 1) := by decide +kernel
theorem dX10_text_133 : decode cX10_text 133 = .ok (.istore 4, 2) := by decide +kernel
theorem dX10_text_135 : decode cX10_text 135 = .ok (.iload 4, 2) := by decide +kernel
theorem dX10_text_137 : decode cX10_text 137 = .ok (.bipush 56, 2) := by decide +kernel
theorem dX10_text_139 : decode cX10_text 139 = .ok (.if_icmp .ge 23, 3) := by decide +kernel
theorem dX10_text_142 : decode cX10_text 142 = .ok (.aload_n 0, 1) := by decide +kernel
theorem dX10_text_143 : decode cX10_text 143 = .ok (.getfield 17, 3) := by decide +kernel
theorem dX10_text_146 : decode cX10_text 146 = .ok (.iload 4, 2) := by decide +kernel
theorem dX10_text_148 : decode cX10_text 148 = .ok (.aload_n 0, 1) := by decide +kernel
theorem dX10_text_149 : decode cX10_text 149 = .ok (.getfield 21, 3) := by decide +kernel
theorem dX10_text_152 : decode cX10_text 152 = .ok (.iload 4, 2) := by decide +kernel
theorem dX10_text_154 : decode cX10_text 154 = .ok (.iaload, 1) := by decide +kernel
theorem dX10_text_155 : decode cX10_text 155 = .ok (.iastore, 1) := by decide +kernel
theorem dX10_text_156 : decode cX10_text 156 = .ok (.iinc 4 1, 3) := by decide +kernel
theorem dX10_text_159 : decode cX10_text 159 = .ok (.goto (-24), 3) := by decide +kernel
theorem dX10_text_162 : decode cX10_text 162 = .ok (.aload_n 0, 1) := by decide +kernel
theorem dX10_text_163 : decode cX10_text 163 = .ok (.invokevirtual 116, 3) := by decide +kernel
theorem dX10_text_166 : decode cX10_text 166 = .ok (.aload_n 0, 1) := by decide +kernel
theorem dX10_text_167 : decode cX10_text 167 = .ok (.iconst 0, 1) := by decide +kernel
theorem dX10_text_168 : decode cX10_text 168 = .ok (.invokevirtual 119, 3) := by decide +kernel
theorem dX10_text_171 : decode cX10_text 171 = .ok (.aload_n 0, 1) := by decide +kernel
theorem dX10_text_172 : decode cX10_text 172 = .ok (.iconst 1, 1) := by decide +kernel
theorem dX10_text_173 : decode cX10_text 173 = .ok (.invokevirtual 119, 3) := by decide +kernel
theorem dX10_text_176 : decode cX10_text 176 = .ok (.aload_n 0, 1) := by decide +kernel
theorem dX10_text_177 : decode cX10_text 177 = .ok (.invokevirtual 79, 3) := by decide +kernel
theorem dX10_text_180 : decode cX10_text 180 = .ok (.iload_n 2, 1) := by decide +kernel
theorem dX10_text_181 : decode cX10_text 181 = .ok (.ireturn, 1) := by decide +kernel
abbrev j10_text : xJ := (cX10_text, 5, RX10, 10, 1100, 6600)
def F10_text_b162 (z : Nat) (x2 : Int32) (c_thrown : Int32) (c_told : (Nat → Int32)) (c_read : (Nat → Int32)) (c_many : (Nat → Int32)) (c_eights : (Nat → Int32)) (c_gains : (Nat → Int32)) (c_notes : (Nat → Int32)) (c_seen : (Nat → Int32)) (c_turns : (Nat → Int32)) (c_drawn : (Nat → Int32)) (c_tape : (Nat → Int32)) (c_taped : Int32) (c_size : Int32) (c_from : Int32) (c_next : Int32) (c_token : Int32) (c_value : Int32) (c_fault : Int32) (c_number : Int32) (c_isLeftLaid : Int32) (cn : Nat) : Option (Int32 × Int32 × (Nat → Int32) × (Nat → Int32) × (Nat → Int32) × (Nat → Int32) × (Nat → Int32) × (Nat → Int32) × (Nat → Int32) × (Nat → Int32) × (Nat → Int32) × Int32 × Int32 × Int32 × Int32 × Int32 × Int32 × Int32 × Int32 × Int32) :=
  xg (decide (cn + 0 ≤ 1100)) ((F10_endsNotes z c_notes c_seen).bind (fun v163 => xg (decide (cn + 0 ≤ 1100)) ((F10_beginsTurns z (0 : Int32) c_turns c_drawn).bind (fun v168 => xg (decide (cn + 0 ≤ 1100)) ((F10_beginsTurns z (1 : Int32) v168.1 v168.2).bind (fun v173 => xg (decide (cn + 0 ≤ 1100)) ((F10_lays z c_told c_many c_eights c_gains c_isLeftLaid).bind (fun v177 => xg (decide (cn ≤ 1100)) (some (x2, c_thrown, c_told, c_read, v177.1, v177.2.1, v177.2.2.1, v163.1, v163.2, v173.1, v173.2, c_taped, c_size, c_from, c_next, c_token, c_value, c_fault, c_number, v177.2.2.2))))))))))
theorem T10_text_b162 {X : xX} {c_state : Int32} {c_fives : (Nat → Int32)} {c_isLeft : (Nat → Int32)} {c_wentTimes : Int32} {c_goes : (Nat → Int32)} {c_game : (Nat → Int32)} {c_rows : Int32} {c_columns : Int32} {c_isFound : Int32} {c_bestValue : Int64} {c_bestBelow : Int64} {c_bestShare : (Nat → Int64)} {c_share : (Nat → Int64)} {c_matrix : (Nat → Int64)} {c_system : (Nat → Int64)} {c_shares : (Nat → Int32)} {c_allShares : Int32} {x2 : Int32} {c_thrown : Int32} {c_told : (Nat → Int32)} {c_read : (Nat → Int32)} {c_many : (Nat → Int32)} {c_eights : (Nat → Int32)} {c_gains : (Nat → Int32)} {c_notes : (Nat → Int32)} {c_seen : (Nat → Int32)} {c_turns : (Nat → Int32)} {c_drawn : (Nat → Int32)} {c_tape : (Nat → Int32)} {c_taped : Int32} {c_size : Int32} {c_from : Int32} {c_next : Int32} {c_token : Int32} {c_value : Int32} {c_fault : Int32} {c_number : Int32} {c_isLeftLaid : Int32} {cn : Nat} {z : Nat} {v : Int32 × Int32 × (Nat → Int32) × (Nat → Int32) × (Nat → Int32) × (Nat → Int32) × (Nat → Int32) × (Nat → Int32) × (Nat → Int32) × (Nat → Int32) × (Nat → Int32) × Int32 × Int32 × Int32 × Int32 × Int32 × Int32 × Int32 × Int32 × Int32} (hX : xIs (j10_text) X ((some .int)) (some (.int v.1)) (hM v.2.1 v.2.2.1 v.2.2.2.1 v.2.2.2.2.1 v.2.2.2.2.2.1 v.2.2.2.2.2.2.1 v.2.2.2.2.2.2.2.1 v.2.2.2.2.2.2.2.2.1 v.2.2.2.2.2.2.2.2.2.1 v.2.2.2.2.2.2.2.2.2.2.1 c_state c_tape v.2.2.2.2.2.2.2.2.2.2.2.1 v.2.2.2.2.2.2.2.2.2.2.2.2.1 v.2.2.2.2.2.2.2.2.2.2.2.2.2.1 v.2.2.2.2.2.2.2.2.2.2.2.2.2.2.1 v.2.2.2.2.2.2.2.2.2.2.2.2.2.2.2.1 v.2.2.2.2.2.2.2.2.2.2.2.2.2.2.2.2.1 v.2.2.2.2.2.2.2.2.2.2.2.2.2.2.2.2.2.1 v.2.2.2.2.2.2.2.2.2.2.2.2.2.2.2.2.2.2.1 c_fives c_isLeft c_wentTimes c_goes v.2.2.2.2.2.2.2.2.2.2.2.2.2.2.2.2.2.2.2 c_game c_rows c_columns c_isFound c_bestValue c_bestBelow c_bestShare c_share c_matrix c_system c_shares c_allShares)) (hf : F10_text_b162 z x2 c_thrown c_told c_read c_many c_eights c_gains c_notes c_seen c_turns c_drawn c_tape c_taped c_size c_from c_next c_token c_value c_fault c_number c_isLeftLaid cn = some v) : xV (j10_text) X cn (6 * cn) (hM c_thrown c_told c_read c_many c_eights c_gains c_notes c_seen c_turns c_drawn c_state c_tape c_taped c_size c_from c_next c_token c_value c_fault c_number c_fives c_isLeft c_wentTimes c_goes c_isLeftLaid c_game c_rows c_columns c_isFound c_bestValue c_bestBelow c_bestShare c_share c_matrix c_system c_shares c_allShares) 162 [(0, .ref 0), (2, .int x2)] [] := by
  unfold F10_text_b162 at hf
  refine xV_aload_n 163 rfl dX10_text_162 rfl 0 rfl ?_
  obtain ⟨hgc163, hf⟩ := xg_s hf
  obtain ⟨v163, hv163, hf⟩ := xb_s hf
  refine xV_same (rest := []) 166 rfl dX10_text_163 rfl (C10_endsNotes X.1.2.1 hv163) m10_endsNotes v10_endsNotes k10_116 rfl rfl rfl rfl rfl (Nat.le_of_ble_eq_true rfl) (Nat.le_of_ble_eq_true rfl) (Nat.le_of_ble_eq_true rfl) ⟨of_decide_eq_true hgc163, xsixc (of_decide_eq_true hgc163)⟩ ?_
  show xV (j10_text) X cn (6 * cn) (hM c_thrown c_told c_read c_many c_eights c_gains v163.1 v163.2 c_turns c_drawn c_state c_tape c_taped c_size c_from c_next c_token c_value c_fault c_number c_fives c_isLeft c_wentTimes c_goes c_isLeftLaid c_game c_rows c_columns c_isFound c_bestValue c_bestBelow c_bestShare c_share c_matrix c_system c_shares c_allShares) 166 [(0, .ref 0), (2, .int x2)] []
  refine xV_aload_n 167 rfl dX10_text_166 rfl 0 rfl ?_
  refine xV_iconst 168 rfl dX10_text_167 xk_i0 ?_
  obtain ⟨hgc168, hf⟩ := xg_s hf
  obtain ⟨v168, hv168, hf⟩ := xb_s hf
  refine xV_same (rest := []) 171 rfl dX10_text_168 rfl (C10_beginsTurns X.1.2.1 hv168) m10_beginsTurns v10_beginsTurns k10_119 rfl rfl rfl rfl rfl (Nat.le_of_ble_eq_true rfl) (Nat.le_of_ble_eq_true rfl) (Nat.le_of_ble_eq_true rfl) ⟨of_decide_eq_true hgc168, xsixc (of_decide_eq_true hgc168)⟩ ?_
  show xV (j10_text) X cn (6 * cn) (hM c_thrown c_told c_read c_many c_eights c_gains v163.1 v163.2 v168.1 v168.2 c_state c_tape c_taped c_size c_from c_next c_token c_value c_fault c_number c_fives c_isLeft c_wentTimes c_goes c_isLeftLaid c_game c_rows c_columns c_isFound c_bestValue c_bestBelow c_bestShare c_share c_matrix c_system c_shares c_allShares) 171 [(0, .ref 0), (2, .int x2)] []
  refine xV_aload_n 172 rfl dX10_text_171 rfl 0 rfl ?_
  refine xV_iconst 173 rfl dX10_text_172 xk_i1 ?_
  obtain ⟨hgc173, hf⟩ := xg_s hf
  obtain ⟨v173, hv173, hf⟩ := xb_s hf
  refine xV_same (rest := []) 176 rfl dX10_text_173 rfl (C10_beginsTurns X.1.2.1 hv173) m10_beginsTurns v10_beginsTurns k10_119 rfl rfl rfl rfl rfl (Nat.le_of_ble_eq_true rfl) (Nat.le_of_ble_eq_true rfl) (Nat.le_of_ble_eq_true rfl) ⟨of_decide_eq_true hgc173, xsixc (of_decide_eq_true hgc173)⟩ ?_
  show xV (j10_text) X cn (6 * cn) (hM c_thrown c_told c_read c_many c_eights c_gains v163.1 v163.2 v173.1 v173.2 c_state c_tape c_taped c_size c_from c_next c_token c_value c_fault c_number c_fives c_isLeft c_wentTimes c_goes c_isLeftLaid c_game c_rows c_columns c_isFound c_bestValue c_bestBelow c_bestShare c_share c_matrix c_system c_shares c_allShares) 176 [(0, .ref 0), (2, .int x2)] []
  refine xV_aload_n 177 rfl dX10_text_176 rfl 0 rfl ?_
  obtain ⟨hgc177, hf⟩ := xg_s hf
  obtain ⟨v177, hv177, hf⟩ := xb_s hf
  refine xV_same (rest := []) 180 rfl dX10_text_177 rfl (C10_lays X.1.2.1 hv177) m10_lays v10_lays k10_79 rfl rfl rfl rfl rfl (Nat.le_of_ble_eq_true rfl) (Nat.le_of_ble_eq_true rfl) (Nat.le_of_ble_eq_true rfl) ⟨of_decide_eq_true hgc177, xsixc (of_decide_eq_true hgc177)⟩ ?_
  show xV (j10_text) X cn (6 * cn) (hM c_thrown c_told c_read v177.1 v177.2.1 v177.2.2.1 v163.1 v163.2 v173.1 v173.2 c_state c_tape c_taped c_size c_from c_next c_token c_value c_fault c_number c_fives c_isLeft c_wentTimes c_goes v177.2.2.2 c_game c_rows c_columns c_isFound c_bestValue c_bestBelow c_bestShare c_share c_matrix c_system c_shares c_allShares) 180 [(0, .ref 0), (2, .int x2)] []
  refine xV_iload_n 181 rfl dX10_text_180 rfl 1 rfl ?_
  obtain ⟨hgn, hf⟩ := xg_s hf
  obtain rfl := Option.some.inj hf
  exact xV_iret hX dX10_text_181 rfl (of_decide_eq_true hgn) (xsix (of_decide_eq_true hgn))
def F10_text_b135 (z : Nat) (w : Nat) (x2 : Int32) (x4 : Int32) (c_thrown : Int32) (c_told : (Nat → Int32)) (c_read : (Nat → Int32)) (c_many : (Nat → Int32)) (c_eights : (Nat → Int32)) (c_gains : (Nat → Int32)) (c_notes : (Nat → Int32)) (c_seen : (Nat → Int32)) (c_turns : (Nat → Int32)) (c_drawn : (Nat → Int32)) (c_tape : (Nat → Int32)) (c_taped : Int32) (c_size : Int32) (c_from : Int32) (c_next : Int32) (c_token : Int32) (c_value : Int32) (c_fault : Int32) (c_number : Int32) (c_isLeftLaid : Int32) (cn : Nat) : Option (Int32 × Int32 × (Nat → Int32) × (Nat → Int32) × (Nat → Int32) × (Nat → Int32) × (Nat → Int32) × (Nat → Int32) × (Nat → Int32) × (Nat → Int32) × (Nat → Int32) × Int32 × Int32 × Int32 × Int32 × Int32 × Int32 × Int32 × Int32 × Int32) := match w with
  | 0 => none
  | w + 1 => if (56 : Int32) ≤ x4 then (F10_text_b162 z x2 c_thrown c_told c_read c_many c_eights c_gains c_notes c_seen c_turns c_drawn c_tape c_taped c_size c_from c_next c_token c_value c_fault c_number c_isLeftLaid (cn)) else (xg (xin x4 56) (xg (xin x4 56) (F10_text_b135 z w x2 (x4 + (1 : Int32)) c_thrown (upd c_told (xn x4) (c_read (xn x4))) c_read c_many c_eights c_gains c_notes c_seen c_turns c_drawn c_tape c_taped c_size c_from c_next c_token c_value c_fault c_number c_isLeftLaid (cn))))
theorem T10_text_b135 {X : xX} {c_state : Int32} {c_tape : (Nat → Int32)} {c_fives : (Nat → Int32)} {c_isLeft : (Nat → Int32)} {c_wentTimes : Int32} {c_goes : (Nat → Int32)} {c_game : (Nat → Int32)} {c_rows : Int32} {c_columns : Int32} {c_isFound : Int32} {c_bestValue : Int64} {c_bestBelow : Int64} {c_bestShare : (Nat → Int64)} {c_share : (Nat → Int64)} {c_matrix : (Nat → Int64)} {c_system : (Nat → Int64)} {c_shares : (Nat → Int32)} {c_allShares : Int32} {z : Nat} {v : Int32 × Int32 × (Nat → Int32) × (Nat → Int32) × (Nat → Int32) × (Nat → Int32) × (Nat → Int32) × (Nat → Int32) × (Nat → Int32) × (Nat → Int32) × (Nat → Int32) × Int32 × Int32 × Int32 × Int32 × Int32 × Int32 × Int32 × Int32 × Int32} (hX : xIs (j10_text) X ((some .int)) (some (.int v.1)) (hM v.2.1 v.2.2.1 v.2.2.2.1 v.2.2.2.2.1 v.2.2.2.2.2.1 v.2.2.2.2.2.2.1 v.2.2.2.2.2.2.2.1 v.2.2.2.2.2.2.2.2.1 v.2.2.2.2.2.2.2.2.2.1 v.2.2.2.2.2.2.2.2.2.2.1 c_state c_tape v.2.2.2.2.2.2.2.2.2.2.2.1 v.2.2.2.2.2.2.2.2.2.2.2.2.1 v.2.2.2.2.2.2.2.2.2.2.2.2.2.1 v.2.2.2.2.2.2.2.2.2.2.2.2.2.2.1 v.2.2.2.2.2.2.2.2.2.2.2.2.2.2.2.1 v.2.2.2.2.2.2.2.2.2.2.2.2.2.2.2.2.1 v.2.2.2.2.2.2.2.2.2.2.2.2.2.2.2.2.2.1 v.2.2.2.2.2.2.2.2.2.2.2.2.2.2.2.2.2.2.1 c_fives c_isLeft c_wentTimes c_goes v.2.2.2.2.2.2.2.2.2.2.2.2.2.2.2.2.2.2.2 c_game c_rows c_columns c_isFound c_bestValue c_bestBelow c_bestShare c_share c_matrix c_system c_shares c_allShares)) : ∀ (w : Nat) {x2 : Int32} {x4 : Int32} {c_thrown : Int32} {c_told : (Nat → Int32)} {c_read : (Nat → Int32)} {c_many : (Nat → Int32)} {c_eights : (Nat → Int32)} {c_gains : (Nat → Int32)} {c_notes : (Nat → Int32)} {c_seen : (Nat → Int32)} {c_turns : (Nat → Int32)} {c_drawn : (Nat → Int32)} {c_taped : Int32} {c_size : Int32} {c_from : Int32} {c_next : Int32} {c_token : Int32} {c_value : Int32} {c_fault : Int32} {c_number : Int32} {c_isLeftLaid : Int32} {cn : Nat}, F10_text_b135 z w x2 x4 c_thrown c_told c_read c_many c_eights c_gains c_notes c_seen c_turns c_drawn c_tape c_taped c_size c_from c_next c_token c_value c_fault c_number c_isLeftLaid cn = some v → xV (j10_text) X cn (6 * cn) (hM c_thrown c_told c_read c_many c_eights c_gains c_notes c_seen c_turns c_drawn c_state c_tape c_taped c_size c_from c_next c_token c_value c_fault c_number c_fives c_isLeft c_wentTimes c_goes c_isLeftLaid c_game c_rows c_columns c_isFound c_bestValue c_bestBelow c_bestShare c_share c_matrix c_system c_shares c_allShares) 135 [(0, .ref 0), (2, .int x2), (4, .int x4)] [] := by
  intro w
  induction w with
  | zero => intro x2 x4 c_thrown c_told c_read c_many c_eights c_gains c_notes c_seen c_turns c_drawn c_taped c_size c_from c_next c_token c_value c_fault c_number c_isLeftLaid cn hf; cases hf
  | succ w ih =>
    intro x2 x4 c_thrown c_told c_read c_many c_eights c_gains c_notes c_seen c_turns c_drawn c_taped c_size c_from c_next c_token c_value c_fault c_number c_isLeftLaid cn hf
    unfold F10_text_b135 at hf
    refine xV_iload 137 rfl dX10_text_135 2 rfl ?_
    refine xV_bipush 139 rfl dX10_text_137 xk_b56 ?_
    refine xV_icmp_ge (tgt := 162) 142 rfl dX10_text_139 (by decide) (fun h139 => ?_) (fun h139 => ?_)
    · have hf := xif_t hf h139
      refine xV_sub [0, 1] rfl ?_
      exact T10_text_b162 hX hf
    · have hf := xif_f hf h139
      refine xV_aload_n 143 rfl dX10_text_142 rfl 0 rfl ?_
      refine xV_get (v := .ref 1) 146 rfl dX10_text_143 f10_17 rfl rfl ?_
      refine xV_iload 148 rfl dX10_text_146 2 rfl ?_
      refine xV_aload_n 149 rfl dX10_text_148 rfl 0 rfl ?_
      refine xV_get (v := .ref 2) 152 rfl dX10_text_149 f10_21 rfl rfl ?_
      refine xV_iload 154 rfl dX10_text_152 2 rfl ?_
      obtain ⟨hg154, hf⟩ := xg_s hf
      refine xV_iaload 155 rfl dX10_text_154 rfl (xin_ok hg154) rfl ?_
      obtain ⟨hg155, hf⟩ := xg_s hf
      refine xV_iastore (h' := (hM c_thrown (upd c_told (xn x4) (c_read (xn x4))) c_read c_many c_eights c_gains c_notes c_seen c_turns c_drawn c_state c_tape c_taped c_size c_from c_next c_token c_value c_fault c_number c_fives c_isLeft c_wentTimes c_goes c_isLeftLaid c_game c_rows c_columns c_isFound c_bestValue c_bestBelow c_bestShare c_share c_matrix c_system c_shares c_allShares)) 156 rfl dX10_text_155 rfl (xin_ok hg155) rfl rfl ?_
      refine xV_iinc (L' := [(4, .int (x4 + (1 : Int32))), (0, .ref 0), (2, .int x2)]) 159 rfl dX10_text_156 2 rfl (xk_inc xk_i1) (xlt rfl) rfl ?_
      refine xV_goto (tgt := 135) dX10_text_159 (by decide) ?_
      refine xV_sub [1, 2, 0] rfl ?_
      exact ih hf
def F10_text_b120 (z : Nat) (x2 : Int32) (x3 : Int32) (c_thrown : Int32) (c_told : (Nat → Int32)) (c_read : (Nat → Int32)) (c_many : (Nat → Int32)) (c_eights : (Nat → Int32)) (c_gains : (Nat → Int32)) (c_notes : (Nat → Int32)) (c_seen : (Nat → Int32)) (c_turns : (Nat → Int32)) (c_drawn : (Nat → Int32)) (c_tape : (Nat → Int32)) (c_taped : Int32) (c_size : Int32) (c_from : Int32) (c_next : Int32) (c_token : Int32) (c_value : Int32) (c_fault : Int32) (c_number : Int32) (c_isLeftLaid : Int32) (cn : Nat) : Option (Int32 × Int32 × (Nat → Int32) × (Nat → Int32) × (Nat → Int32) × (Nat → Int32) × (Nat → Int32) × (Nat → Int32) × (Nat → Int32) × (Nat → Int32) × (Nat → Int32) × Int32 × Int32 × Int32 × Int32 × Int32 × Int32 × Int32 × Int32 × Int32) :=
  if x3 = 0 then (xg (decide (cn ≤ 1100)) (some (((-2 : Int32) - c_fault), c_thrown, c_told, c_read, c_many, c_eights, c_gains, c_notes, c_seen, c_turns, c_drawn, c_taped, c_size, c_from, c_next, c_token, c_value, c_fault, c_number, c_isLeftLaid))) else (F10_text_b135 z z x2 (0 : Int32) c_thrown c_told c_read c_many c_eights c_gains c_notes c_seen c_turns c_drawn c_tape c_taped c_size c_from c_next c_token c_value c_fault c_number c_isLeftLaid (cn))
theorem T10_text_b120 {X : xX} {c_state : Int32} {c_fives : (Nat → Int32)} {c_isLeft : (Nat → Int32)} {c_wentTimes : Int32} {c_goes : (Nat → Int32)} {c_game : (Nat → Int32)} {c_rows : Int32} {c_columns : Int32} {c_isFound : Int32} {c_bestValue : Int64} {c_bestBelow : Int64} {c_bestShare : (Nat → Int64)} {c_share : (Nat → Int64)} {c_matrix : (Nat → Int64)} {c_system : (Nat → Int64)} {c_shares : (Nat → Int32)} {c_allShares : Int32} {x2 : Int32} {x3 : Int32} {c_thrown : Int32} {c_told : (Nat → Int32)} {c_read : (Nat → Int32)} {c_many : (Nat → Int32)} {c_eights : (Nat → Int32)} {c_gains : (Nat → Int32)} {c_notes : (Nat → Int32)} {c_seen : (Nat → Int32)} {c_turns : (Nat → Int32)} {c_drawn : (Nat → Int32)} {c_tape : (Nat → Int32)} {c_taped : Int32} {c_size : Int32} {c_from : Int32} {c_next : Int32} {c_token : Int32} {c_value : Int32} {c_fault : Int32} {c_number : Int32} {c_isLeftLaid : Int32} {cn : Nat} {z : Nat} {v : Int32 × Int32 × (Nat → Int32) × (Nat → Int32) × (Nat → Int32) × (Nat → Int32) × (Nat → Int32) × (Nat → Int32) × (Nat → Int32) × (Nat → Int32) × (Nat → Int32) × Int32 × Int32 × Int32 × Int32 × Int32 × Int32 × Int32 × Int32 × Int32} (hX : xIs (j10_text) X ((some .int)) (some (.int v.1)) (hM v.2.1 v.2.2.1 v.2.2.2.1 v.2.2.2.2.1 v.2.2.2.2.2.1 v.2.2.2.2.2.2.1 v.2.2.2.2.2.2.2.1 v.2.2.2.2.2.2.2.2.1 v.2.2.2.2.2.2.2.2.2.1 v.2.2.2.2.2.2.2.2.2.2.1 c_state c_tape v.2.2.2.2.2.2.2.2.2.2.2.1 v.2.2.2.2.2.2.2.2.2.2.2.2.1 v.2.2.2.2.2.2.2.2.2.2.2.2.2.1 v.2.2.2.2.2.2.2.2.2.2.2.2.2.2.1 v.2.2.2.2.2.2.2.2.2.2.2.2.2.2.2.1 v.2.2.2.2.2.2.2.2.2.2.2.2.2.2.2.2.1 v.2.2.2.2.2.2.2.2.2.2.2.2.2.2.2.2.2.1 v.2.2.2.2.2.2.2.2.2.2.2.2.2.2.2.2.2.2.1 c_fives c_isLeft c_wentTimes c_goes v.2.2.2.2.2.2.2.2.2.2.2.2.2.2.2.2.2.2.2 c_game c_rows c_columns c_isFound c_bestValue c_bestBelow c_bestShare c_share c_matrix c_system c_shares c_allShares)) (hf : F10_text_b120 z x2 x3 c_thrown c_told c_read c_many c_eights c_gains c_notes c_seen c_turns c_drawn c_tape c_taped c_size c_from c_next c_token c_value c_fault c_number c_isLeftLaid cn = some v) : xV (j10_text) X cn (6 * cn) (hM c_thrown c_told c_read c_many c_eights c_gains c_notes c_seen c_turns c_drawn c_state c_tape c_taped c_size c_from c_next c_token c_value c_fault c_number c_fives c_isLeft c_wentTimes c_goes c_isLeftLaid c_game c_rows c_columns c_isFound c_bestValue c_bestBelow c_bestShare c_share c_matrix c_system c_shares c_allShares) 120 [(0, .ref 0), (2, .int x2), (3, .int x3)] [] := by
  unfold F10_text_b120 at hf
  refine xV_iload_n 121 rfl dX10_text_120 rfl 2 rfl ?_
  refine xV_if_ne (tgt := 132) 124 rfl dX10_text_121 (by decide) (fun h121 => ?_) (fun h121 => ?_)
  · have hf := xif_f hf h121
    refine xV_iconst 133 rfl dX10_text_132 xk_i0 ?_
    refine xV_istore (L' := [(4, .int (0 : Int32)), (0, .ref 0), (2, .int x2), (3, .int x3)]) 135 rfl dX10_text_133 (xlt rfl) rfl ?_
    refine xV_sub [1, 2, 0] rfl ?_
    exact T10_text_b135 hX _ hf
  · have hf := xif_t hf h121
    refine xV_bipush 126 rfl dX10_text_124 xk_bm2 ?_
    refine xV_aload_n 127 rfl dX10_text_126 rfl 0 rfl ?_
    refine xV_get (v := .int c_fault) 130 rfl dX10_text_127 f10_147 rfl rfl ?_
    refine xV_isub 131 rfl dX10_text_130 ?_
    obtain ⟨hgn, hf⟩ := xg_s hf
    obtain rfl := Option.some.inj hf
    exact xV_iret hX dX10_text_131 rfl (of_decide_eq_true hgn) (xsix (of_decide_eq_true hgn))
def F10_text_b103 (z : Nat) (x2 : Int32) (x3 : Int32) (c_thrown : Int32) (c_told : (Nat → Int32)) (c_read : (Nat → Int32)) (c_many : (Nat → Int32)) (c_eights : (Nat → Int32)) (c_gains : (Nat → Int32)) (c_notes : (Nat → Int32)) (c_seen : (Nat → Int32)) (c_turns : (Nat → Int32)) (c_drawn : (Nat → Int32)) (c_tape : (Nat → Int32)) (c_taped : Int32) (c_size : Int32) (c_from : Int32) (c_next : Int32) (c_token : Int32) (c_value : Int32) (c_fault : Int32) (c_number : Int32) (c_isLeftLaid : Int32) (cn : Nat) : Option (Int32 × Int32 × (Nat → Int32) × (Nat → Int32) × (Nat → Int32) × (Nat → Int32) × (Nat → Int32) × (Nat → Int32) × (Nat → Int32) × (Nat → Int32) × (Nat → Int32) × Int32 × Int32 × Int32 × Int32 × Int32 × Int32 × Int32 × Int32 × Int32) :=
  if x3 = 0 then (F10_text_b120 z x2 x3 c_thrown c_told c_read c_many c_eights c_gains c_notes c_seen c_turns c_drawn c_tape c_taped c_size c_from c_next c_token c_value c_fault c_number c_isLeftLaid (cn)) else (if c_token = 0 then (F10_text_b120 z x2 x3 c_thrown c_told c_read c_many c_eights c_gains c_notes c_seen c_turns c_drawn c_tape c_taped c_size c_from c_next c_token c_value c_fault c_number c_isLeftLaid (cn)) else (xg (decide (cn + 0 ≤ 1100)) ((F10_bad (1 : Int32) c_from c_fault).bind (fun v116 => F10_text_b120 z x2 v116.1 c_thrown c_told c_read c_many c_eights c_gains c_notes c_seen c_turns c_drawn c_tape c_taped c_size c_from c_next c_token c_value v116.2 c_number c_isLeftLaid (cn)))))
theorem T10_text_b103 {X : xX} {c_state : Int32} {c_fives : (Nat → Int32)} {c_isLeft : (Nat → Int32)} {c_wentTimes : Int32} {c_goes : (Nat → Int32)} {c_game : (Nat → Int32)} {c_rows : Int32} {c_columns : Int32} {c_isFound : Int32} {c_bestValue : Int64} {c_bestBelow : Int64} {c_bestShare : (Nat → Int64)} {c_share : (Nat → Int64)} {c_matrix : (Nat → Int64)} {c_system : (Nat → Int64)} {c_shares : (Nat → Int32)} {c_allShares : Int32} {x2 : Int32} {x3 : Int32} {c_thrown : Int32} {c_told : (Nat → Int32)} {c_read : (Nat → Int32)} {c_many : (Nat → Int32)} {c_eights : (Nat → Int32)} {c_gains : (Nat → Int32)} {c_notes : (Nat → Int32)} {c_seen : (Nat → Int32)} {c_turns : (Nat → Int32)} {c_drawn : (Nat → Int32)} {c_tape : (Nat → Int32)} {c_taped : Int32} {c_size : Int32} {c_from : Int32} {c_next : Int32} {c_token : Int32} {c_value : Int32} {c_fault : Int32} {c_number : Int32} {c_isLeftLaid : Int32} {cn : Nat} {z : Nat} {v : Int32 × Int32 × (Nat → Int32) × (Nat → Int32) × (Nat → Int32) × (Nat → Int32) × (Nat → Int32) × (Nat → Int32) × (Nat → Int32) × (Nat → Int32) × (Nat → Int32) × Int32 × Int32 × Int32 × Int32 × Int32 × Int32 × Int32 × Int32 × Int32} (hX : xIs (j10_text) X ((some .int)) (some (.int v.1)) (hM v.2.1 v.2.2.1 v.2.2.2.1 v.2.2.2.2.1 v.2.2.2.2.2.1 v.2.2.2.2.2.2.1 v.2.2.2.2.2.2.2.1 v.2.2.2.2.2.2.2.2.1 v.2.2.2.2.2.2.2.2.2.1 v.2.2.2.2.2.2.2.2.2.2.1 c_state c_tape v.2.2.2.2.2.2.2.2.2.2.2.1 v.2.2.2.2.2.2.2.2.2.2.2.2.1 v.2.2.2.2.2.2.2.2.2.2.2.2.2.1 v.2.2.2.2.2.2.2.2.2.2.2.2.2.2.1 v.2.2.2.2.2.2.2.2.2.2.2.2.2.2.2.1 v.2.2.2.2.2.2.2.2.2.2.2.2.2.2.2.2.1 v.2.2.2.2.2.2.2.2.2.2.2.2.2.2.2.2.2.1 v.2.2.2.2.2.2.2.2.2.2.2.2.2.2.2.2.2.2.1 c_fives c_isLeft c_wentTimes c_goes v.2.2.2.2.2.2.2.2.2.2.2.2.2.2.2.2.2.2.2 c_game c_rows c_columns c_isFound c_bestValue c_bestBelow c_bestShare c_share c_matrix c_system c_shares c_allShares)) (hf : F10_text_b103 z x2 x3 c_thrown c_told c_read c_many c_eights c_gains c_notes c_seen c_turns c_drawn c_tape c_taped c_size c_from c_next c_token c_value c_fault c_number c_isLeftLaid cn = some v) : xV (j10_text) X cn (6 * cn) (hM c_thrown c_told c_read c_many c_eights c_gains c_notes c_seen c_turns c_drawn c_state c_tape c_taped c_size c_from c_next c_token c_value c_fault c_number c_fives c_isLeft c_wentTimes c_goes c_isLeftLaid c_game c_rows c_columns c_isFound c_bestValue c_bestBelow c_bestShare c_share c_matrix c_system c_shares c_allShares) 103 [(0, .ref 0), (2, .int x2), (3, .int x3)] [] := by
  unfold F10_text_b103 at hf
  refine xV_iload_n 104 rfl dX10_text_103 rfl 2 rfl ?_
  refine xV_if_eq (tgt := 120) 107 rfl dX10_text_104 (by decide) (fun h104 => ?_) (fun h104 => ?_)
  · have hf := xif_t hf h104
    exact T10_text_b120 hX hf
  · have hf := xif_f hf h104
    refine xV_aload_n 108 rfl dX10_text_107 rfl 0 rfl ?_
    refine xV_get (v := .int c_token) 111 rfl dX10_text_108 f10_141 rfl rfl ?_
    refine xV_if_eq (tgt := 120) 114 rfl dX10_text_111 (by decide) (fun h111 => ?_) (fun h111 => ?_)
    · have hf := xif_t hf h111
      exact T10_text_b120 hX hf
    · have hf := xif_f hf h111
      refine xV_aload_n 115 rfl dX10_text_114 rfl 0 rfl ?_
      refine xV_iconst 116 rfl dX10_text_115 xk_i1 ?_
      obtain ⟨hgc116, hf⟩ := xg_s hf
      obtain ⟨v116, hv116, hf⟩ := xb_s hf
      refine xV_same (rest := []) 119 rfl dX10_text_116 rfl (C10_bad X.1.2.1 hv116) m10_bad v10_bad k10_150 rfl rfl rfl rfl rfl (Nat.le_of_ble_eq_true rfl) (Nat.le_of_ble_eq_true rfl) (Nat.le_of_ble_eq_true rfl) ⟨of_decide_eq_true hgc116, xsixc (of_decide_eq_true hgc116)⟩ ?_
      show xV (j10_text) X cn (6 * cn) (hM c_thrown c_told c_read c_many c_eights c_gains c_notes c_seen c_turns c_drawn c_state c_tape c_taped c_size c_from c_next c_token c_value v116.2 c_number c_fives c_isLeft c_wentTimes c_goes c_isLeftLaid c_game c_rows c_columns c_isFound c_bestValue c_bestBelow c_bestShare c_share c_matrix c_system c_shares c_allShares) 119 [(0, .ref 0), (2, .int x2), (3, .int x3)] [.int v116.1]
      refine xV_istore_n (L' := [(3, .int v116.1), (0, .ref 0), (2, .int x2)]) 120 rfl dX10_text_119 rfl (xlt rfl) rfl ?_
      refine xV_sub [1, 2, 0] rfl ?_
      exact T10_text_b120 hX hf
def F10_text_b76 (z : Nat) (w : Nat) (x2 : Int32) (x3 : Int32) (c_thrown : Int32) (c_told : (Nat → Int32)) (c_read : (Nat → Int32)) (c_many : (Nat → Int32)) (c_eights : (Nat → Int32)) (c_gains : (Nat → Int32)) (c_notes : (Nat → Int32)) (c_seen : (Nat → Int32)) (c_turns : (Nat → Int32)) (c_drawn : (Nat → Int32)) (c_tape : (Nat → Int32)) (c_taped : Int32) (c_size : Int32) (c_from : Int32) (c_next : Int32) (c_token : Int32) (c_value : Int32) (c_fault : Int32) (c_number : Int32) (c_isLeftLaid : Int32) (cn : Nat) : Option (Int32 × Int32 × (Nat → Int32) × (Nat → Int32) × (Nat → Int32) × (Nat → Int32) × (Nat → Int32) × (Nat → Int32) × (Nat → Int32) × (Nat → Int32) × (Nat → Int32) × Int32 × Int32 × Int32 × Int32 × Int32 × Int32 × Int32 × Int32 × Int32) := match w with
  | 0 => none
  | w + 1 => if x3 = 0 then (F10_text_b103 z x2 x3 c_thrown c_told c_read c_many c_eights c_gains c_notes c_seen c_turns c_drawn c_tape c_taped c_size c_from c_next c_token c_value c_fault c_number c_isLeftLaid (cn)) else (if c_token = (3 : Int32) then (xg (decide (cn + 0 ≤ 1100)) ((F10_go z c_tape c_size c_from c_next c_token c_value).bind (fun v89 => xg (decide (cn + 14 ≤ 1100)) ((F10_line z c_read c_tape c_size v89.1 v89.2.1 v89.2.2.1 v89.2.2.2 c_fault c_number).bind (fun v93 => F10_text_b76 z w (x2 + (1 : Int32)) v93.1 c_thrown c_told v93.2.1 c_many c_eights c_gains c_notes c_seen c_turns c_drawn c_tape c_taped c_size v93.2.2.1 v93.2.2.2.1 v93.2.2.2.2.1 v93.2.2.2.2.2.1 v93.2.2.2.2.2.2.1 v93.2.2.2.2.2.2.2 c_isLeftLaid ((cn + 14))))))) else (F10_text_b103 z x2 x3 c_thrown c_told c_read c_many c_eights c_gains c_notes c_seen c_turns c_drawn c_tape c_taped c_size c_from c_next c_token c_value c_fault c_number c_isLeftLaid (cn)))
theorem T10_text_b76 {X : xX} {c_state : Int32} {c_tape : (Nat → Int32)} {c_fives : (Nat → Int32)} {c_isLeft : (Nat → Int32)} {c_wentTimes : Int32} {c_goes : (Nat → Int32)} {c_game : (Nat → Int32)} {c_rows : Int32} {c_columns : Int32} {c_isFound : Int32} {c_bestValue : Int64} {c_bestBelow : Int64} {c_bestShare : (Nat → Int64)} {c_share : (Nat → Int64)} {c_matrix : (Nat → Int64)} {c_system : (Nat → Int64)} {c_shares : (Nat → Int32)} {c_allShares : Int32} {z : Nat} {v : Int32 × Int32 × (Nat → Int32) × (Nat → Int32) × (Nat → Int32) × (Nat → Int32) × (Nat → Int32) × (Nat → Int32) × (Nat → Int32) × (Nat → Int32) × (Nat → Int32) × Int32 × Int32 × Int32 × Int32 × Int32 × Int32 × Int32 × Int32 × Int32} (hX : xIs (j10_text) X ((some .int)) (some (.int v.1)) (hM v.2.1 v.2.2.1 v.2.2.2.1 v.2.2.2.2.1 v.2.2.2.2.2.1 v.2.2.2.2.2.2.1 v.2.2.2.2.2.2.2.1 v.2.2.2.2.2.2.2.2.1 v.2.2.2.2.2.2.2.2.2.1 v.2.2.2.2.2.2.2.2.2.2.1 c_state c_tape v.2.2.2.2.2.2.2.2.2.2.2.1 v.2.2.2.2.2.2.2.2.2.2.2.2.1 v.2.2.2.2.2.2.2.2.2.2.2.2.2.1 v.2.2.2.2.2.2.2.2.2.2.2.2.2.2.1 v.2.2.2.2.2.2.2.2.2.2.2.2.2.2.2.1 v.2.2.2.2.2.2.2.2.2.2.2.2.2.2.2.2.1 v.2.2.2.2.2.2.2.2.2.2.2.2.2.2.2.2.2.1 v.2.2.2.2.2.2.2.2.2.2.2.2.2.2.2.2.2.2.1 c_fives c_isLeft c_wentTimes c_goes v.2.2.2.2.2.2.2.2.2.2.2.2.2.2.2.2.2.2.2 c_game c_rows c_columns c_isFound c_bestValue c_bestBelow c_bestShare c_share c_matrix c_system c_shares c_allShares)) : ∀ (w : Nat) {x2 : Int32} {x3 : Int32} {c_thrown : Int32} {c_told : (Nat → Int32)} {c_read : (Nat → Int32)} {c_many : (Nat → Int32)} {c_eights : (Nat → Int32)} {c_gains : (Nat → Int32)} {c_notes : (Nat → Int32)} {c_seen : (Nat → Int32)} {c_turns : (Nat → Int32)} {c_drawn : (Nat → Int32)} {c_taped : Int32} {c_size : Int32} {c_from : Int32} {c_next : Int32} {c_token : Int32} {c_value : Int32} {c_fault : Int32} {c_number : Int32} {c_isLeftLaid : Int32} {cn : Nat}, F10_text_b76 z w x2 x3 c_thrown c_told c_read c_many c_eights c_gains c_notes c_seen c_turns c_drawn c_tape c_taped c_size c_from c_next c_token c_value c_fault c_number c_isLeftLaid cn = some v → xV (j10_text) X cn (6 * cn) (hM c_thrown c_told c_read c_many c_eights c_gains c_notes c_seen c_turns c_drawn c_state c_tape c_taped c_size c_from c_next c_token c_value c_fault c_number c_fives c_isLeft c_wentTimes c_goes c_isLeftLaid c_game c_rows c_columns c_isFound c_bestValue c_bestBelow c_bestShare c_share c_matrix c_system c_shares c_allShares) 76 [(0, .ref 0), (2, .int x2), (3, .int x3)] [] := by
  intro w
  induction w with
  | zero => intro x2 x3 c_thrown c_told c_read c_many c_eights c_gains c_notes c_seen c_turns c_drawn c_taped c_size c_from c_next c_token c_value c_fault c_number c_isLeftLaid cn hf; cases hf
  | succ w ih =>
    intro x2 x3 c_thrown c_told c_read c_many c_eights c_gains c_notes c_seen c_turns c_drawn c_taped c_size c_from c_next c_token c_value c_fault c_number c_isLeftLaid cn hf
    unfold F10_text_b76 at hf
    refine xV_iload_n 77 rfl dX10_text_76 rfl 2 rfl ?_
    refine xV_if_eq (tgt := 103) 80 rfl dX10_text_77 (by decide) (fun h77 => ?_) (fun h77 => ?_)
    · have hf := xif_t hf h77
      exact T10_text_b103 hX hf
    · have hf := xif_f hf h77
      refine xV_aload_n 81 rfl dX10_text_80 rfl 0 rfl ?_
      refine xV_get (v := .int c_token) 84 rfl dX10_text_81 f10_141 rfl rfl ?_
      refine xV_iconst 85 rfl dX10_text_84 xk_i3 ?_
      refine xV_icmp_ne (tgt := 103) 88 rfl dX10_text_85 (by decide) (fun h85 => ?_) (fun h85 => ?_)
      · have hf := xif_f hf h85
        exact T10_text_b103 hX hf
      · have hf := xif_t hf h85
        refine xV_aload_n 89 rfl dX10_text_88 rfl 0 rfl ?_
        obtain ⟨hgc89, hf⟩ := xg_s hf
        obtain ⟨v89, hv89, hf⟩ := xb_s hf
        refine xV_same (rest := []) 92 rfl dX10_text_89 rfl (C10_go X.1.2.1 hv89) m10_go v10_go k10_160 rfl rfl rfl rfl rfl (Nat.le_of_ble_eq_true rfl) (Nat.le_of_ble_eq_true rfl) (Nat.le_of_ble_eq_true rfl) ⟨of_decide_eq_true hgc89, xsixc (of_decide_eq_true hgc89)⟩ ?_
        show xV (j10_text) X cn (6 * cn) (hM c_thrown c_told c_read c_many c_eights c_gains c_notes c_seen c_turns c_drawn c_state c_tape c_taped c_size v89.1 v89.2.1 v89.2.2.1 v89.2.2.2 c_fault c_number c_fives c_isLeft c_wentTimes c_goes c_isLeftLaid c_game c_rows c_columns c_isFound c_bestValue c_bestBelow c_bestShare c_share c_matrix c_system c_shares c_allShares) 92 [(0, .ref 0), (2, .int x2), (3, .int x3)] []
        refine xV_aload_n 93 rfl dX10_text_92 rfl 0 rfl ?_
        obtain ⟨hgc93, hf⟩ := xg_s hf
        obtain ⟨v93, hv93, hf⟩ := xb_s hf
        refine xV_same (rest := []) 96 rfl dX10_text_93 rfl (C10_line X.1.2.1 hv93) m10_line v10_line k10_204 rfl rfl rfl rfl rfl (Nat.le_of_ble_eq_true rfl) (Nat.le_of_ble_eq_true rfl) (Nat.le_of_ble_eq_true rfl) ⟨of_decide_eq_true hgc93, xsixc (of_decide_eq_true hgc93)⟩ ?_
        refine xV_eq (n' := (cn + 14)) (k' := 6 * (cn + 14)) rfl (by first | exact xsixe2 rfl | rfl) ?_
        show xV (j10_text) X (cn + 14) (6 * (cn + 14)) (hM c_thrown c_told v93.2.1 c_many c_eights c_gains c_notes c_seen c_turns c_drawn c_state c_tape c_taped c_size v93.2.2.1 v93.2.2.2.1 v93.2.2.2.2.1 v93.2.2.2.2.2.1 v93.2.2.2.2.2.2.1 v93.2.2.2.2.2.2.2 c_fives c_isLeft c_wentTimes c_goes c_isLeftLaid c_game c_rows c_columns c_isFound c_bestValue c_bestBelow c_bestShare c_share c_matrix c_system c_shares c_allShares) 96 [(0, .ref 0), (2, .int x2), (3, .int x3)] [.int v93.1]
        refine xV_istore_n (L' := [(3, .int v93.1), (0, .ref 0), (2, .int x2)]) 97 rfl dX10_text_96 rfl (xlt rfl) rfl ?_
        refine xV_iinc (L' := [(2, .int (x2 + (1 : Int32))), (3, .int v93.1), (0, .ref 0)]) 100 rfl dX10_text_97 2 rfl (xk_inc xk_i1) (xlt rfl) rfl ?_
        refine xV_goto (tgt := 76) dX10_text_100 (by decide) ?_
        refine xV_sub [2, 0, 1] rfl ?_
        exact ih hf
def F10_text_b65 (z : Nat) (c_thrown : Int32) (c_told : (Nat → Int32)) (c_read : (Nat → Int32)) (c_many : (Nat → Int32)) (c_eights : (Nat → Int32)) (c_gains : (Nat → Int32)) (c_notes : (Nat → Int32)) (c_seen : (Nat → Int32)) (c_turns : (Nat → Int32)) (c_drawn : (Nat → Int32)) (c_tape : (Nat → Int32)) (c_taped : Int32) (c_size : Int32) (c_from : Int32) (c_next : Int32) (c_token : Int32) (c_value : Int32) (c_fault : Int32) (c_number : Int32) (c_isLeftLaid : Int32) (cn : Nat) : Option (Int32 × Int32 × (Nat → Int32) × (Nat → Int32) × (Nat → Int32) × (Nat → Int32) × (Nat → Int32) × (Nat → Int32) × (Nat → Int32) × (Nat → Int32) × (Nat → Int32) × Int32 × Int32 × Int32 × Int32 × Int32 × Int32 × Int32 × Int32 × Int32) :=
  xg (decide (cn + 0 ≤ 1100)) ((F10_go z c_tape c_size c_from c_next c_token c_value).bind (fun v66 => xg (decide (cn + 14 ≤ 1100)) ((F10_line z c_read c_tape c_size v66.1 v66.2.1 v66.2.2.1 v66.2.2.2 c_fault c_number).bind (fun v72 => F10_text_b76 z z (1 : Int32) v72.1 c_thrown c_told v72.2.1 c_many c_eights c_gains c_notes c_seen c_turns c_drawn c_tape c_taped c_size v72.2.2.1 v72.2.2.2.1 v72.2.2.2.2.1 v72.2.2.2.2.2.1 v72.2.2.2.2.2.2.1 v72.2.2.2.2.2.2.2 c_isLeftLaid ((cn + 14))))))
theorem T10_text_b65 {X : xX} {c_state : Int32} {c_fives : (Nat → Int32)} {c_isLeft : (Nat → Int32)} {c_wentTimes : Int32} {c_goes : (Nat → Int32)} {c_game : (Nat → Int32)} {c_rows : Int32} {c_columns : Int32} {c_isFound : Int32} {c_bestValue : Int64} {c_bestBelow : Int64} {c_bestShare : (Nat → Int64)} {c_share : (Nat → Int64)} {c_matrix : (Nat → Int64)} {c_system : (Nat → Int64)} {c_shares : (Nat → Int32)} {c_allShares : Int32} {c_thrown : Int32} {c_told : (Nat → Int32)} {c_read : (Nat → Int32)} {c_many : (Nat → Int32)} {c_eights : (Nat → Int32)} {c_gains : (Nat → Int32)} {c_notes : (Nat → Int32)} {c_seen : (Nat → Int32)} {c_turns : (Nat → Int32)} {c_drawn : (Nat → Int32)} {c_tape : (Nat → Int32)} {c_taped : Int32} {c_size : Int32} {c_from : Int32} {c_next : Int32} {c_token : Int32} {c_value : Int32} {c_fault : Int32} {c_number : Int32} {c_isLeftLaid : Int32} {cn : Nat} {z : Nat} {v : Int32 × Int32 × (Nat → Int32) × (Nat → Int32) × (Nat → Int32) × (Nat → Int32) × (Nat → Int32) × (Nat → Int32) × (Nat → Int32) × (Nat → Int32) × (Nat → Int32) × Int32 × Int32 × Int32 × Int32 × Int32 × Int32 × Int32 × Int32 × Int32} (hX : xIs (j10_text) X ((some .int)) (some (.int v.1)) (hM v.2.1 v.2.2.1 v.2.2.2.1 v.2.2.2.2.1 v.2.2.2.2.2.1 v.2.2.2.2.2.2.1 v.2.2.2.2.2.2.2.1 v.2.2.2.2.2.2.2.2.1 v.2.2.2.2.2.2.2.2.2.1 v.2.2.2.2.2.2.2.2.2.2.1 c_state c_tape v.2.2.2.2.2.2.2.2.2.2.2.1 v.2.2.2.2.2.2.2.2.2.2.2.2.1 v.2.2.2.2.2.2.2.2.2.2.2.2.2.1 v.2.2.2.2.2.2.2.2.2.2.2.2.2.2.1 v.2.2.2.2.2.2.2.2.2.2.2.2.2.2.2.1 v.2.2.2.2.2.2.2.2.2.2.2.2.2.2.2.2.1 v.2.2.2.2.2.2.2.2.2.2.2.2.2.2.2.2.2.1 v.2.2.2.2.2.2.2.2.2.2.2.2.2.2.2.2.2.2.1 c_fives c_isLeft c_wentTimes c_goes v.2.2.2.2.2.2.2.2.2.2.2.2.2.2.2.2.2.2.2 c_game c_rows c_columns c_isFound c_bestValue c_bestBelow c_bestShare c_share c_matrix c_system c_shares c_allShares)) (hf : F10_text_b65 z c_thrown c_told c_read c_many c_eights c_gains c_notes c_seen c_turns c_drawn c_tape c_taped c_size c_from c_next c_token c_value c_fault c_number c_isLeftLaid cn = some v) : xV (j10_text) X cn (6 * cn) (hM c_thrown c_told c_read c_many c_eights c_gains c_notes c_seen c_turns c_drawn c_state c_tape c_taped c_size c_from c_next c_token c_value c_fault c_number c_fives c_isLeft c_wentTimes c_goes c_isLeftLaid c_game c_rows c_columns c_isFound c_bestValue c_bestBelow c_bestShare c_share c_matrix c_system c_shares c_allShares) 65 [(0, .ref 0)] [] := by
  unfold F10_text_b65 at hf
  refine xV_aload_n 66 rfl dX10_text_65 rfl 0 rfl ?_
  obtain ⟨hgc66, hf⟩ := xg_s hf
  obtain ⟨v66, hv66, hf⟩ := xb_s hf
  refine xV_same (rest := []) 69 rfl dX10_text_66 rfl (C10_go X.1.2.1 hv66) m10_go v10_go k10_160 rfl rfl rfl rfl rfl (Nat.le_of_ble_eq_true rfl) (Nat.le_of_ble_eq_true rfl) (Nat.le_of_ble_eq_true rfl) ⟨of_decide_eq_true hgc66, xsixc (of_decide_eq_true hgc66)⟩ ?_
  show xV (j10_text) X cn (6 * cn) (hM c_thrown c_told c_read c_many c_eights c_gains c_notes c_seen c_turns c_drawn c_state c_tape c_taped c_size v66.1 v66.2.1 v66.2.2.1 v66.2.2.2 c_fault c_number c_fives c_isLeft c_wentTimes c_goes c_isLeftLaid c_game c_rows c_columns c_isFound c_bestValue c_bestBelow c_bestShare c_share c_matrix c_system c_shares c_allShares) 69 [(0, .ref 0)] []
  refine xV_iconst 70 rfl dX10_text_69 xk_i1 ?_
  refine xV_istore_n (L' := [(2, .int (1 : Int32)), (0, .ref 0)]) 71 rfl dX10_text_70 rfl (xlt rfl) rfl ?_
  refine xV_aload_n 72 rfl dX10_text_71 rfl 1 rfl ?_
  obtain ⟨hgc72, hf⟩ := xg_s hf
  obtain ⟨v72, hv72, hf⟩ := xb_s hf
  refine xV_same (rest := []) 75 rfl dX10_text_72 rfl (C10_line X.1.2.1 hv72) m10_line v10_line k10_204 rfl rfl rfl rfl rfl (Nat.le_of_ble_eq_true rfl) (Nat.le_of_ble_eq_true rfl) (Nat.le_of_ble_eq_true rfl) ⟨of_decide_eq_true hgc72, xsixc (of_decide_eq_true hgc72)⟩ ?_
  refine xV_eq (n' := (cn + 14)) (k' := 6 * (cn + 14)) rfl (by first | exact xsixe2 rfl | rfl) ?_
  show xV (j10_text) X (cn + 14) (6 * (cn + 14)) (hM c_thrown c_told v72.2.1 c_many c_eights c_gains c_notes c_seen c_turns c_drawn c_state c_tape c_taped c_size v72.2.2.1 v72.2.2.2.1 v72.2.2.2.2.1 v72.2.2.2.2.2.1 v72.2.2.2.2.2.2.1 v72.2.2.2.2.2.2.2 c_fives c_isLeft c_wentTimes c_goes c_isLeftLaid c_game c_rows c_columns c_isFound c_bestValue c_bestBelow c_bestShare c_share c_matrix c_system c_shares c_allShares) 75 [(2, .int (1 : Int32)), (0, .ref 0)] [.int v72.1]
  refine xV_istore_n (L' := [(3, .int v72.1), (2, .int (1 : Int32)), (0, .ref 0)]) 76 rfl dX10_text_75 rfl (xlt rfl) rfl ?_
  refine xV_sub [2, 1, 0] rfl ?_
  exact T10_text_b76 hX _ hf
def F10_text_b41 (z : Nat) (w : Nat) (x2 : Int32) (c_thrown : Int32) (c_told : (Nat → Int32)) (c_read : (Nat → Int32)) (c_many : (Nat → Int32)) (c_eights : (Nat → Int32)) (c_gains : (Nat → Int32)) (c_notes : (Nat → Int32)) (c_seen : (Nat → Int32)) (c_turns : (Nat → Int32)) (c_drawn : (Nat → Int32)) (c_tape : (Nat → Int32)) (c_taped : Int32) (c_size : Int32) (c_from : Int32) (c_next : Int32) (c_token : Int32) (c_value : Int32) (c_fault : Int32) (c_number : Int32) (c_isLeftLaid : Int32) (cn : Nat) : Option (Int32 × Int32 × (Nat → Int32) × (Nat → Int32) × (Nat → Int32) × (Nat → Int32) × (Nat → Int32) × (Nat → Int32) × (Nat → Int32) × (Nat → Int32) × (Nat → Int32) × Int32 × Int32 × Int32 × Int32 × Int32 × Int32 × Int32 × Int32 × Int32) := match w with
  | 0 => none
  | w + 1 => if (56 : Int32) ≤ x2 then (F10_text_b65 z c_thrown c_told c_read c_many c_eights c_gains c_notes c_seen c_turns c_drawn c_tape c_taped c_size c_from c_next c_token c_value c_fault c_number c_isLeftLaid (cn)) else (xg (xin x2 56) (xg (xin x2 56) (F10_text_b41 z w (x2 + (1 : Int32)) c_thrown c_told (upd c_read (xn x2) (c_told (xn x2))) c_many c_eights c_gains c_notes c_seen c_turns c_drawn c_tape c_taped c_size c_from c_next c_token c_value c_fault c_number c_isLeftLaid (cn))))
theorem T10_text_b41 {X : xX} {c_state : Int32} {c_tape : (Nat → Int32)} {c_fives : (Nat → Int32)} {c_isLeft : (Nat → Int32)} {c_wentTimes : Int32} {c_goes : (Nat → Int32)} {c_game : (Nat → Int32)} {c_rows : Int32} {c_columns : Int32} {c_isFound : Int32} {c_bestValue : Int64} {c_bestBelow : Int64} {c_bestShare : (Nat → Int64)} {c_share : (Nat → Int64)} {c_matrix : (Nat → Int64)} {c_system : (Nat → Int64)} {c_shares : (Nat → Int32)} {c_allShares : Int32} {z : Nat} {v : Int32 × Int32 × (Nat → Int32) × (Nat → Int32) × (Nat → Int32) × (Nat → Int32) × (Nat → Int32) × (Nat → Int32) × (Nat → Int32) × (Nat → Int32) × (Nat → Int32) × Int32 × Int32 × Int32 × Int32 × Int32 × Int32 × Int32 × Int32 × Int32} (hX : xIs (j10_text) X ((some .int)) (some (.int v.1)) (hM v.2.1 v.2.2.1 v.2.2.2.1 v.2.2.2.2.1 v.2.2.2.2.2.1 v.2.2.2.2.2.2.1 v.2.2.2.2.2.2.2.1 v.2.2.2.2.2.2.2.2.1 v.2.2.2.2.2.2.2.2.2.1 v.2.2.2.2.2.2.2.2.2.2.1 c_state c_tape v.2.2.2.2.2.2.2.2.2.2.2.1 v.2.2.2.2.2.2.2.2.2.2.2.2.1 v.2.2.2.2.2.2.2.2.2.2.2.2.2.1 v.2.2.2.2.2.2.2.2.2.2.2.2.2.2.1 v.2.2.2.2.2.2.2.2.2.2.2.2.2.2.2.1 v.2.2.2.2.2.2.2.2.2.2.2.2.2.2.2.2.1 v.2.2.2.2.2.2.2.2.2.2.2.2.2.2.2.2.2.1 v.2.2.2.2.2.2.2.2.2.2.2.2.2.2.2.2.2.2.1 c_fives c_isLeft c_wentTimes c_goes v.2.2.2.2.2.2.2.2.2.2.2.2.2.2.2.2.2.2.2 c_game c_rows c_columns c_isFound c_bestValue c_bestBelow c_bestShare c_share c_matrix c_system c_shares c_allShares)) : ∀ (w : Nat) {x2 : Int32} {c_thrown : Int32} {c_told : (Nat → Int32)} {c_read : (Nat → Int32)} {c_many : (Nat → Int32)} {c_eights : (Nat → Int32)} {c_gains : (Nat → Int32)} {c_notes : (Nat → Int32)} {c_seen : (Nat → Int32)} {c_turns : (Nat → Int32)} {c_drawn : (Nat → Int32)} {c_taped : Int32} {c_size : Int32} {c_from : Int32} {c_next : Int32} {c_token : Int32} {c_value : Int32} {c_fault : Int32} {c_number : Int32} {c_isLeftLaid : Int32} {cn : Nat}, F10_text_b41 z w x2 c_thrown c_told c_read c_many c_eights c_gains c_notes c_seen c_turns c_drawn c_tape c_taped c_size c_from c_next c_token c_value c_fault c_number c_isLeftLaid cn = some v → xV (j10_text) X cn (6 * cn) (hM c_thrown c_told c_read c_many c_eights c_gains c_notes c_seen c_turns c_drawn c_state c_tape c_taped c_size c_from c_next c_token c_value c_fault c_number c_fives c_isLeft c_wentTimes c_goes c_isLeftLaid c_game c_rows c_columns c_isFound c_bestValue c_bestBelow c_bestShare c_share c_matrix c_system c_shares c_allShares) 41 [(0, .ref 0), (2, .int x2)] [] := by
  intro w
  induction w with
  | zero => intro x2 c_thrown c_told c_read c_many c_eights c_gains c_notes c_seen c_turns c_drawn c_taped c_size c_from c_next c_token c_value c_fault c_number c_isLeftLaid cn hf; cases hf
  | succ w ih =>
    intro x2 c_thrown c_told c_read c_many c_eights c_gains c_notes c_seen c_turns c_drawn c_taped c_size c_from c_next c_token c_value c_fault c_number c_isLeftLaid cn hf
    unfold F10_text_b41 at hf
    refine xV_iload_n 42 rfl dX10_text_41 rfl 1 rfl ?_
    refine xV_bipush 44 rfl dX10_text_42 xk_b56 ?_
    refine xV_icmp_ge (tgt := 65) 47 rfl dX10_text_44 (by decide) (fun h44 => ?_) (fun h44 => ?_)
    · have hf := xif_t hf h44
      refine xV_sub [0] rfl ?_
      exact T10_text_b65 hX hf
    · have hf := xif_f hf h44
      refine xV_aload_n 48 rfl dX10_text_47 rfl 0 rfl ?_
      refine xV_get (v := .ref 2) 51 rfl dX10_text_48 f10_21 rfl rfl ?_
      refine xV_iload_n 52 rfl dX10_text_51 rfl 1 rfl ?_
      refine xV_aload_n 53 rfl dX10_text_52 rfl 0 rfl ?_
      refine xV_get (v := .ref 1) 56 rfl dX10_text_53 f10_17 rfl rfl ?_
      refine xV_iload_n 57 rfl dX10_text_56 rfl 1 rfl ?_
      obtain ⟨hg57, hf⟩ := xg_s hf
      refine xV_iaload 58 rfl dX10_text_57 rfl (xin_ok hg57) rfl ?_
      obtain ⟨hg58, hf⟩ := xg_s hf
      refine xV_iastore (h' := (hM c_thrown c_told (upd c_read (xn x2) (c_told (xn x2))) c_many c_eights c_gains c_notes c_seen c_turns c_drawn c_state c_tape c_taped c_size c_from c_next c_token c_value c_fault c_number c_fives c_isLeft c_wentTimes c_goes c_isLeftLaid c_game c_rows c_columns c_isFound c_bestValue c_bestBelow c_bestShare c_share c_matrix c_system c_shares c_allShares)) 59 rfl dX10_text_58 rfl (xin_ok hg58) rfl rfl ?_
      refine xV_iinc (L' := [(2, .int (x2 + (1 : Int32))), (0, .ref 0)]) 62 rfl dX10_text_59 1 rfl (xk_inc xk_i1) (xlt rfl) rfl ?_
      refine xV_goto (tgt := 41) dX10_text_62 (by decide) ?_
      refine xV_sub [1, 0] rfl ?_
      exact ih hf
def F10_text (z : Nat) (x1 : Int32) (c_thrown : Int32) (c_told : (Nat → Int32)) (c_read : (Nat → Int32)) (c_many : (Nat → Int32)) (c_eights : (Nat → Int32)) (c_gains : (Nat → Int32)) (c_notes : (Nat → Int32)) (c_seen : (Nat → Int32)) (c_turns : (Nat → Int32)) (c_drawn : (Nat → Int32)) (c_tape : (Nat → Int32)) (c_taped : Int32) (c_size : Int32) (c_from : Int32) (c_next : Int32) (c_token : Int32) (c_value : Int32) (c_fault : Int32) (c_number : Int32) (c_isLeftLaid : Int32) : Option (Int32 × Int32 × (Nat → Int32) × (Nat → Int32) × (Nat → Int32) × (Nat → Int32) × (Nat → Int32) × (Nat → Int32) × (Nat → Int32) × (Nat → Int32) × (Nat → Int32) × Int32 × Int32 × Int32 × Int32 × Int32 × Int32 × Int32 × Int32 × Int32) :=
  xg (decide (0 + 0 ≤ 1100)) ((F10_within x1 (0 : Int32) c_taped).bind (fun v11 => if v11 = 0 then (xg (decide (0 ≤ 1100)) (some ((-1 : Int32), (0 : Int32), c_told, c_read, c_many, c_eights, c_gains, c_notes, c_seen, c_turns, c_drawn, c_taped, c_size, c_from, c_next, c_token, c_value, c_fault, c_number, c_isLeftLaid))) else (F10_text_b41 z z (0 : Int32) (0 : Int32) c_told c_read c_many c_eights c_gains c_notes c_seen c_turns c_drawn c_tape (0 : Int32) x1 c_from (0 : Int32) c_token c_value (0 : Int32) c_number c_isLeftLaid (0))))
theorem T10_text {X : xX} {z : Nat} {x1 : Int32} {c_thrown : Int32} {c_told : (Nat → Int32)} {c_read : (Nat → Int32)} {c_many : (Nat → Int32)} {c_eights : (Nat → Int32)} {c_gains : (Nat → Int32)} {c_notes : (Nat → Int32)} {c_seen : (Nat → Int32)} {c_turns : (Nat → Int32)} {c_drawn : (Nat → Int32)} {c_tape : (Nat → Int32)} {c_taped : Int32} {c_size : Int32} {c_from : Int32} {c_next : Int32} {c_token : Int32} {c_value : Int32} {c_fault : Int32} {c_number : Int32} {c_isLeftLaid : Int32} {c_state : Int32} {c_fives : (Nat → Int32)} {c_isLeft : (Nat → Int32)} {c_wentTimes : Int32} {c_goes : (Nat → Int32)} {c_game : (Nat → Int32)} {c_rows : Int32} {c_columns : Int32} {c_isFound : Int32} {c_bestValue : Int64} {c_bestBelow : Int64} {c_bestShare : (Nat → Int64)} {c_share : (Nat → Int64)} {c_matrix : (Nat → Int64)} {c_system : (Nat → Int64)} {c_shares : (Nat → Int32)} {c_allShares : Int32} {v : Int32 × Int32 × (Nat → Int32) × (Nat → Int32) × (Nat → Int32) × (Nat → Int32) × (Nat → Int32) × (Nat → Int32) × (Nat → Int32) × (Nat → Int32) × (Nat → Int32) × Int32 × Int32 × Int32 × Int32 × Int32 × Int32 × Int32 × Int32 × Int32} (hX : xIs (j10_text) X ((some .int)) (some (.int v.1)) (hM v.2.1 v.2.2.1 v.2.2.2.1 v.2.2.2.2.1 v.2.2.2.2.2.1 v.2.2.2.2.2.2.1 v.2.2.2.2.2.2.2.1 v.2.2.2.2.2.2.2.2.1 v.2.2.2.2.2.2.2.2.2.1 v.2.2.2.2.2.2.2.2.2.2.1 c_state c_tape v.2.2.2.2.2.2.2.2.2.2.2.1 v.2.2.2.2.2.2.2.2.2.2.2.2.1 v.2.2.2.2.2.2.2.2.2.2.2.2.2.1 v.2.2.2.2.2.2.2.2.2.2.2.2.2.2.1 v.2.2.2.2.2.2.2.2.2.2.2.2.2.2.2.1 v.2.2.2.2.2.2.2.2.2.2.2.2.2.2.2.2.1 v.2.2.2.2.2.2.2.2.2.2.2.2.2.2.2.2.2.1 v.2.2.2.2.2.2.2.2.2.2.2.2.2.2.2.2.2.2.1 c_fives c_isLeft c_wentTimes c_goes v.2.2.2.2.2.2.2.2.2.2.2.2.2.2.2.2.2.2.2 c_game c_rows c_columns c_isFound c_bestValue c_bestBelow c_bestShare c_share c_matrix c_system c_shares c_allShares)) (hf : F10_text z x1 c_thrown c_told c_read c_many c_eights c_gains c_notes c_seen c_turns c_drawn c_tape c_taped c_size c_from c_next c_token c_value c_fault c_number c_isLeftLaid = some v) : xV (j10_text) X 0 0 (hM c_thrown c_told c_read c_many c_eights c_gains c_notes c_seen c_turns c_drawn c_state c_tape c_taped c_size c_from c_next c_token c_value c_fault c_number c_fives c_isLeft c_wentTimes c_goes c_isLeftLaid c_game c_rows c_columns c_isFound c_bestValue c_bestBelow c_bestShare c_share c_matrix c_system c_shares c_allShares) 0 [(0, .ref 0), (1, .int x1)] [] := by
  unfold F10_text at hf
  refine xV_aload_n 1 rfl dX10_text_0 rfl 0 rfl ?_
  refine xV_iconst 2 rfl dX10_text_1 xk_i0 ?_
  refine xV_put (h' := (hM (0 : Int32) c_told c_read c_many c_eights c_gains c_notes c_seen c_turns c_drawn c_state c_tape c_taped c_size c_from c_next c_token c_value c_fault c_number c_fives c_isLeft c_wentTimes c_goes c_isLeftLaid c_game c_rows c_columns c_isFound c_bestValue c_bestBelow c_bestShare c_share c_matrix c_system c_shares c_allShares)) 5 rfl dX10_text_2 f10_1 rfl nf10_0 (fun _ => rfl) (fun _ => rfl) (Nat.le_of_ble_eq_true rfl) rfl ?_
  refine xV_iload_n 6 rfl dX10_text_5 rfl 1 rfl ?_
  refine xV_iconst 7 rfl dX10_text_6 xk_i0 ?_
  refine xV_aload_n 8 rfl dX10_text_7 rfl 0 rfl ?_
  refine xV_get (v := .int c_taped) 11 rfl dX10_text_8 f10_123 rfl rfl ?_
  obtain ⟨hgc11, hf⟩ := xg_s hf
  obtain ⟨v11, hv11, hf⟩ := xb_s hf
  refine xV_st0 (rest := []) 14 rfl dX10_text_11 rfl (C10_within X.1.2.1 hv11) m10_within s10_within k10_7 rfl (Nat.le_of_ble_eq_true rfl) (Nat.le_of_ble_eq_true rfl) (Nat.le_of_ble_eq_true rfl) ⟨of_decide_eq_true hgc11, xsixc (of_decide_eq_true hgc11)⟩ ?_
  show xV (j10_text) X 0 (6 * 0) (hM (0 : Int32) c_told c_read c_many c_eights c_gains c_notes c_seen c_turns c_drawn c_state c_tape c_taped c_size c_from c_next c_token c_value c_fault c_number c_fives c_isLeft c_wentTimes c_goes c_isLeftLaid c_game c_rows c_columns c_isFound c_bestValue c_bestBelow c_bestShare c_share c_matrix c_system c_shares c_allShares) 14 [(0, .ref 0), (1, .int x1)] [.int v11]
  refine xV_if_ne (tgt := 19) 17 rfl dX10_text_14 (by decide) (fun h14 => ?_) (fun h14 => ?_)
  · have hf := xif_f hf h14
    refine xV_aload_n 20 rfl dX10_text_19 rfl 0 rfl ?_
    refine xV_iload_n 21 rfl dX10_text_20 rfl 1 rfl ?_
    refine xV_put (h' := (hM (0 : Int32) c_told c_read c_many c_eights c_gains c_notes c_seen c_turns c_drawn c_state c_tape c_taped x1 c_from c_next c_token c_value c_fault c_number c_fives c_isLeft c_wentTimes c_goes c_isLeftLaid c_game c_rows c_columns c_isFound c_bestValue c_bestBelow c_bestShare c_share c_matrix c_system c_shares c_allShares)) 24 rfl dX10_text_21 f10_129 rfl nf10_13 (fun _ => rfl) (fun _ => rfl) (Nat.le_of_ble_eq_true rfl) rfl ?_
    refine xV_aload_n 25 rfl dX10_text_24 rfl 0 rfl ?_
    refine xV_iconst 26 rfl dX10_text_25 xk_i0 ?_
    refine xV_put (h' := (hM (0 : Int32) c_told c_read c_many c_eights c_gains c_notes c_seen c_turns c_drawn c_state c_tape (0 : Int32) x1 c_from c_next c_token c_value c_fault c_number c_fives c_isLeft c_wentTimes c_goes c_isLeftLaid c_game c_rows c_columns c_isFound c_bestValue c_bestBelow c_bestShare c_share c_matrix c_system c_shares c_allShares)) 29 rfl dX10_text_26 f10_123 rfl nf10_12 (fun _ => rfl) (fun _ => rfl) (Nat.le_of_ble_eq_true rfl) rfl ?_
    refine xV_aload_n 30 rfl dX10_text_29 rfl 0 rfl ?_
    refine xV_iconst 31 rfl dX10_text_30 xk_i0 ?_
    refine xV_put (h' := (hM (0 : Int32) c_told c_read c_many c_eights c_gains c_notes c_seen c_turns c_drawn c_state c_tape (0 : Int32) x1 c_from (0 : Int32) c_token c_value c_fault c_number c_fives c_isLeft c_wentTimes c_goes c_isLeftLaid c_game c_rows c_columns c_isFound c_bestValue c_bestBelow c_bestShare c_share c_matrix c_system c_shares c_allShares)) 34 rfl dX10_text_31 f10_132 rfl nf10_15 (fun _ => rfl) (fun _ => rfl) (Nat.le_of_ble_eq_true rfl) rfl ?_
    refine xV_aload_n 35 rfl dX10_text_34 rfl 0 rfl ?_
    refine xV_iconst 36 rfl dX10_text_35 xk_i0 ?_
    refine xV_put (h' := (hM (0 : Int32) c_told c_read c_many c_eights c_gains c_notes c_seen c_turns c_drawn c_state c_tape (0 : Int32) x1 c_from (0 : Int32) c_token c_value (0 : Int32) c_number c_fives c_isLeft c_wentTimes c_goes c_isLeftLaid c_game c_rows c_columns c_isFound c_bestValue c_bestBelow c_bestShare c_share c_matrix c_system c_shares c_allShares)) 39 rfl dX10_text_36 f10_147 rfl nf10_18 (fun _ => rfl) (fun _ => rfl) (Nat.le_of_ble_eq_true rfl) rfl ?_
    refine xV_iconst 40 rfl dX10_text_39 xk_i0 ?_
    refine xV_istore_n (L' := [(2, .int (0 : Int32)), (0, .ref 0), (1, .int x1)]) 41 rfl dX10_text_40 rfl (xlt rfl) rfl ?_
    refine xV_sub [1, 0] rfl ?_
    exact T10_text_b41 hX _ hf
  · have hf := xif_t hf h14
    refine xV_iconst 18 rfl dX10_text_17 xk_im1 ?_
    obtain ⟨hgn, hf⟩ := xg_s hf
    obtain rfl := Option.some.inj hf
    exact xV_iret hX dX10_text_18 rfl (of_decide_eq_true hgn) (xsix (of_decide_eq_true hgn))
theorem C10_text (l : Launch) {z : Nat} {x1 : Int32} {c_thrown : Int32} {c_told : (Nat → Int32)} {c_read : (Nat → Int32)} {c_many : (Nat → Int32)} {c_eights : (Nat → Int32)} {c_gains : (Nat → Int32)} {c_notes : (Nat → Int32)} {c_seen : (Nat → Int32)} {c_turns : (Nat → Int32)} {c_drawn : (Nat → Int32)} {c_tape : (Nat → Int32)} {c_taped : Int32} {c_size : Int32} {c_from : Int32} {c_next : Int32} {c_token : Int32} {c_value : Int32} {c_fault : Int32} {c_number : Int32} {c_isLeftLaid : Int32} {c_state : Int32} {c_fives : (Nat → Int32)} {c_isLeft : (Nat → Int32)} {c_wentTimes : Int32} {c_goes : (Nat → Int32)} {c_game : (Nat → Int32)} {c_rows : Int32} {c_columns : Int32} {c_isFound : Int32} {c_bestValue : Int64} {c_bestBelow : Int64} {c_bestShare : (Nat → Int64)} {c_share : (Nat → Int64)} {c_matrix : (Nat → Int64)} {c_system : (Nat → Int64)} {c_shares : (Nat → Int32)} {c_allShares : Int32} {v : Int32 × Int32 × (Nat → Int32) × (Nat → Int32) × (Nat → Int32) × (Nat → Int32) × (Nat → Int32) × (Nat → Int32) × (Nat → Int32) × (Nat → Int32) × (Nat → Int32) × Int32 × Int32 × Int32 × Int32 × Int32 × Int32 × Int32 × Int32 × Int32} (hf : F10_text z x1 c_thrown c_told c_read c_many c_eights c_gains c_notes c_seen c_turns c_drawn c_tape c_taped c_size c_from c_next c_token c_value c_fault c_number c_isLeftLaid = some v) : xCt l yX10_text ((some .int)) j10_text [.ref 0, .int x1] (hM c_thrown c_told c_read c_many c_eights c_gains c_notes c_seen c_turns c_drawn c_state c_tape c_taped c_size c_from c_next c_token c_value c_fault c_number c_fives c_isLeft c_wentTimes c_goes c_isLeftLaid c_game c_rows c_columns c_isFound c_bestValue c_bestBelow c_bestShare c_share c_matrix c_system c_shares c_allShares) (some (.int v.1)) (hM v.2.1 v.2.2.1 v.2.2.2.1 v.2.2.2.2.1 v.2.2.2.2.2.1 v.2.2.2.2.2.2.1 v.2.2.2.2.2.2.2.1 v.2.2.2.2.2.2.2.2.1 v.2.2.2.2.2.2.2.2.2.1 v.2.2.2.2.2.2.2.2.2.2.1 c_state c_tape v.2.2.2.2.2.2.2.2.2.2.2.1 v.2.2.2.2.2.2.2.2.2.2.2.2.1 v.2.2.2.2.2.2.2.2.2.2.2.2.2.1 v.2.2.2.2.2.2.2.2.2.2.2.2.2.2.1 v.2.2.2.2.2.2.2.2.2.2.2.2.2.2.2.1 v.2.2.2.2.2.2.2.2.2.2.2.2.2.2.2.2.1 v.2.2.2.2.2.2.2.2.2.2.2.2.2.2.2.2.2.1 v.2.2.2.2.2.2.2.2.2.2.2.2.2.2.2.2.2.2.1 c_fives c_isLeft c_wentTimes c_goes v.2.2.2.2.2.2.2.2.2.2.2.2.2.2.2.2.2.2.2 c_game c_rows c_columns c_isFound c_bestValue c_bestBelow c_bestShare c_share c_matrix c_system c_shares c_allShares) := xCt_of (by decide) rfl (Nat.le_of_ble_eq_true rfl) (fun _ hX => T10_text hX hf)
theorem m10_text : xMd yX10_text RX10 ((some .int)) j10_text 1 := ⟨List.mem_of_getElem? (i := 408) (by decide +kernel), List.mem_of_getElem? (i := 5) (by decide +kernel), rfl, by decide +kernel⟩
theorem v10_text : xMv yX10_text RX10 := ⟨List.mem_of_getElem? (i := 406) (by decide +kernel), List.mem_of_getElem? (i := 407) (by decide +kernel)⟩
