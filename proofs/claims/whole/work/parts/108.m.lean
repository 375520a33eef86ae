theorem dX10_gainBy_0 : decode cX10_gainBy 0 = .ok (.iconst 0, 1) := by decide +kernel
theorem dX10_gainBy_1 : decode cX10_gainBy 1 = .ok (.istore_n 3, 1) := by decide +kernel
theorem dX10_gainBy_2 : decode cX10_gainBy 2 = .ok (.iconst 0, 1) := by decide +kernel
theorem dX10_gainBy_3 : decode cX10_gainBy 3 = .ok (.istore 4, 2) := by decide +kernel
theorem dX10_gainBy_5 : decode cX10_gainBy 5 = .ok (.iload 4, 2) := by decide +kernel
theorem dX10_gainBy_7 : decode cX10_gainBy 7 = .ok (.aload_n 0, 1) := by decide +kernel
theorem dX10_gainBy_8 : decode cX10_gainBy 8 = .ok (.getfield 24, 3) := by decide +kernel
theorem dX10_gainBy_11 : decode cX10_gainBy 11 = .ok (.iload_n 1, 1) := by decide +kernel
theorem dX10_gainBy_12 : decode cX10_gainBy 12 = .ok (.iaload, 1) := by decide +kernel
theorem dX10_gainBy_13 : decode cX10_gainBy 13 = .ok (.if_icmp .ge 42, 3) := by decide +kernel
theorem dX10_gainBy_16 : decode cX10_gainBy 16 = .ok (.iload_n 3, 1) := by decide +kernel
theorem dX10_gainBy_17 : decode cX10_gainBy 17 = .ok (.aload_n 0, 1) := by decide +kernel
theorem dX10_gainBy_18 : decode cX10_gainBy 18 = .ok (.getfield 76, 3) := by decide +kernel
theorem dX10_gainBy_21 : decode cX10_gainBy 21 = .ok (.iload 4, 2) := by decide +kernel
theorem dX10_gainBy_23 : decode cX10_gainBy 23 = .ok (.iaload, 1) := by decide +kernel
theorem dX10_gainBy_24 : decode cX10_gainBy 24 = .ok (.ifCond .ne 7, 3) := by decide +kernel
theorem dX10_gainBy_27 : decode cX10_gainBy 27 = .ok (.iconst 0, 1) := by decide +kernel
theorem dX10_gainBy_28 : decode cX10_gainBy 28 = .ok (.goto 19, 3) := by decide +kernel
theorem dX10_gainBy_31 : decode cX10_gainBy 31 = .ok (.aload_n 0, 1) := by decide +kernel
theorem dX10_gainBy_32 : decode cX10_gainBy 32 = .ok (.getfield 76, 3) := by decide +kernel
theorem dX10_gainBy_35 : decode cX10_gainBy 35 = .ok (.iload 4, 2) := by decide +kernel
theorem dX10_gainBy_37 : decode cX10_gainBy 37 = .ok (.iaload, 1) := by decide +kernel
theorem dX10_gainBy_38 : decode cX10_gainBy 38 = .ok (.aload_n 0, 1) := by decide +kernel
theorem dX10_gainBy_39 : decode cX10_gainBy 39 = .ok (.iload_n 1, 1) := by decide +kernel
theorem dX10_gainBy_40 : decode cX10_gainBy 40 = .ok (.iload 4, 2) := by decide +kernel
theorem dX10_gainBy_42 : decode cX10_gainBy 42 = .ok (.iload_n 2, 1) := by decide +kernel
theorem dX10_gainBy_43 : decode cX10_gainBy 43 = .ok (.invokevirtual 233, 3) := by decide +kernel
theorem dX10_gainBy_46 : decode cX10_gainBy 46 = .ok (.imul, 1) := by decide +kernel
theorem dX10_gainBy_47 : decode cX10_gainBy 47 = .ok (.iadd, 1) := by decide +kernel
theorem dX10_gainBy_48 : decode cX10_gainBy 48 = .ok (.istore_n 3, 1) := by decide +kernel
theorem dX10_gainBy_49 : decode cX10_gainBy 49 = .ok (.iinc 4 1, 3) := by decide +kernel
theorem dX10_gainBy_52 : decode cX10_gainBy 52 = .ok (.goto (-47), 3) := by decide +kernel
theorem dX10_gainBy_55 : decode cX10_gainBy 55 = .ok (.iload_n 3, 1) := by decide +kernel
theorem dX10_gainBy_56 : decode cX10_gainBy 56 = .ok (.ireturn, 1) := by decide +kernel
abbrev j10_gainBy : xJ := (cX10_gainBy, 5, RX10, 2, 0, 0)
def F10_gainBy_b47 (z : Nat) (x1 : Int32) (x2 : Int32) (x4 : Int32) (s0 : Int32) (s1 : Int32) (c_many : (Nat → Int32)) (c_gains : (Nat → Int32)) (c_shares : (Nat → Int32)) (k5 : Int32 → Int32 → Int32 → Int32 → (Nat → Int32) → (Nat → Int32) → (Nat → Int32) → Option (Int32)) : Option (Int32) :=
  k5 x1 x2 (s0 + s1) (x4 + (1 : Int32)) c_many c_gains c_shares
theorem T10_gainBy_b47 {X : xX} {c_thrown : Int32} {c_told : (Nat → Int32)} {c_read : (Nat → Int32)} {c_eights : (Nat → Int32)} {c_notes : (Nat → Int32)} {c_seen : (Nat → Int32)} {c_turns : (Nat → Int32)} {c_drawn : (Nat → Int32)} {c_state : Int32} {c_tape : (Nat → Int32)} {c_taped : Int32} {c_size : Int32} {c_from : Int32} {c_next : Int32} {c_token : Int32} {c_value : Int32} {c_fault : Int32} {c_number : Int32} {c_fives : (Nat → Int32)} {c_isLeft : (Nat → Int32)} {c_wentTimes : Int32} {c_goes : (Nat → Int32)} {c_isLeftLaid : Int32} {c_game : (Nat → Int32)} {c_rows : Int32} {c_columns : Int32} {c_isFound : Int32} {c_bestValue : Int64} {c_bestBelow : Int64} {c_bestShare : (Nat → Int64)} {c_share : (Nat → Int64)} {c_matrix : (Nat → Int64)} {c_system : (Nat → Int64)} {c_allShares : Int32} {x1 : Int32} {x2 : Int32} {x4 : Int32} {s0 : Int32} {s1 : Int32} {c_many : (Nat → Int32)} {c_gains : (Nat → Int32)} {c_shares : (Nat → Int32)} {z : Nat} {v : Int32} {k5 : Int32 → Int32 → Int32 → Int32 → (Nat → Int32) → (Nat → Int32) → (Nat → Int32) → Option (Int32)} (hX : xIs (j10_gainBy) X ((some .int)) (some (.int v)) (hM c_thrown c_told c_read c_many c_eights c_gains c_notes c_seen c_turns c_drawn c_state c_tape c_taped c_size c_from c_next c_token c_value c_fault c_number c_fives c_isLeft c_wentTimes c_goes c_isLeftLaid c_game c_rows c_columns c_isFound c_bestValue c_bestBelow c_bestShare c_share c_matrix c_system c_shares c_allShares)) (hk5 : ∀ {x1 : Int32} {x2 : Int32} {x3 : Int32} {x4 : Int32}, k5 x1 x2 x3 x4 c_many c_gains c_shares = some v → xV (j10_gainBy) X 0 0 (hM c_thrown c_told c_read c_many c_eights c_gains c_notes c_seen c_turns c_drawn c_state c_tape c_taped c_size c_from c_next c_token c_value c_fault c_number c_fives c_isLeft c_wentTimes c_goes c_isLeftLaid c_game c_rows c_columns c_isFound c_bestValue c_bestBelow c_bestShare c_share c_matrix c_system c_shares c_allShares) 5 [(0, .ref 0), (1, .int x1), (2, .int x2), (3, .int x3), (4, .int x4)] []) (hf : F10_gainBy_b47 z x1 x2 x4 s0 s1 c_many c_gains c_shares k5 = some v) : xV (j10_gainBy) X 0 0 (hM c_thrown c_told c_read c_many c_eights c_gains c_notes c_seen c_turns c_drawn c_state c_tape c_taped c_size c_from c_next c_token c_value c_fault c_number c_fives c_isLeft c_wentTimes c_goes c_isLeftLaid c_game c_rows c_columns c_isFound c_bestValue c_bestBelow c_bestShare c_share c_matrix c_system c_shares c_allShares) 47 [(0, .ref 0), (1, .int x1), (2, .int x2), (4, .int x4)] [.int s1, .int s0] := by
  unfold F10_gainBy_b47 at hf
  refine xV_iadd 48 rfl dX10_gainBy_47 ?_
  refine xV_istore_n (L' := [(3, .int (s0 + s1)), (0, .ref 0), (1, .int x1), (2, .int x2), (4, .int x4)]) 49 rfl dX10_gainBy_48 rfl (xlt rfl) rfl ?_
  refine xV_iinc (L' := [(4, .int (x4 + (1 : Int32))), (3, .int (s0 + s1)), (0, .ref 0), (1, .int x1), (2, .int x2)]) 52 rfl dX10_gainBy_49 4 rfl (xk_inc xk_i1) (xlt rfl) rfl ?_
  refine xV_goto (tgt := 5) dX10_gainBy_52 (by decide) ?_
  refine xV_sub [2, 3, 4, 1, 0] rfl ?_
  exact hk5 hf
def F10_gainBy_b5 (z : Nat) (w : Nat) (x1 : Int32) (x2 : Int32) (x3 : Int32) (x4 : Int32) (c_many : (Nat → Int32)) (c_gains : (Nat → Int32)) (c_shares : (Nat → Int32)) : Option (Int32) := match w with
  | 0 => none
  | w + 1 => xg (xin x1 2) (if (c_many (xn x1)) ≤ x4 then (some (x3)) else (xg (xin x4 128) (if (c_shares (xn x4)) = 0 then (F10_gainBy_b47 z x1 x2 x4 x3 (0 : Int32) c_many c_gains c_shares (fun q0 q1 q2 q3 q4 q5 q6 => F10_gainBy_b5 z w q0 q1 q2 q3 q4 q5 q6)) else (xg (xin x4 128) ((F10_gainFor x1 x4 x2 c_gains).bind (fun v43 => F10_gainBy_b47 z x1 x2 x4 x3 ((c_shares (xn x4)) * v43) c_many c_gains c_shares (fun q0 q1 q2 q3 q4 q5 q6 => F10_gainBy_b5 z w q0 q1 q2 q3 q4 q5 q6)))))))
theorem T10_gainBy_b5 {X : xX} {c_thrown : Int32} {c_told : (Nat → Int32)} {c_read : (Nat → Int32)} {c_many : (Nat → Int32)} {c_eights : (Nat → Int32)} {c_gains : (Nat → Int32)} {c_notes : (Nat → Int32)} {c_seen : (Nat → Int32)} {c_turns : (Nat → Int32)} {c_drawn : (Nat → Int32)} {c_state : Int32} {c_tape : (Nat → Int32)} {c_taped : Int32} {c_size : Int32} {c_from : Int32} {c_next : Int32} {c_token : Int32} {c_value : Int32} {c_fault : Int32} {c_number : Int32} {c_fives : (Nat → Int32)} {c_isLeft : (Nat → Int32)} {c_wentTimes : Int32} {c_goes : (Nat → Int32)} {c_isLeftLaid : Int32} {c_game : (Nat → Int32)} {c_rows : Int32} {c_columns : Int32} {c_isFound : Int32} {c_bestValue : Int64} {c_bestBelow : Int64} {c_bestShare : (Nat → Int64)} {c_share : (Nat → Int64)} {c_matrix : (Nat → Int64)} {c_system : (Nat → Int64)} {c_shares : (Nat → Int32)} {c_allShares : Int32} {z : Nat} {v : Int32} (hX : xIs (j10_gainBy) X ((some .int)) (some (.int v)) (hM c_thrown c_told c_read c_many c_eights c_gains c_notes c_seen c_turns c_drawn c_state c_tape c_taped c_size c_from c_next c_token c_value c_fault c_number c_fives c_isLeft c_wentTimes c_goes c_isLeftLaid c_game c_rows c_columns c_isFound c_bestValue c_bestBelow c_bestShare c_share c_matrix c_system c_shares c_allShares)) : ∀ (w : Nat) {x1 : Int32} {x2 : Int32} {x3 : Int32} {x4 : Int32}, F10_gainBy_b5 z w x1 x2 x3 x4 c_many c_gains c_shares = some v → xV (j10_gainBy) X 0 0 (hM c_thrown c_told c_read c_many c_eights c_gains c_notes c_seen c_turns c_drawn c_state c_tape c_taped c_size c_from c_next c_token c_value c_fault c_number c_fives c_isLeft c_wentTimes c_goes c_isLeftLaid c_game c_rows c_columns c_isFound c_bestValue c_bestBelow c_bestShare c_share c_matrix c_system c_shares c_allShares) 5 [(0, .ref 0), (1, .int x1), (2, .int x2), (3, .int x3), (4, .int x4)] [] := by
  intro w
  induction w with
  | zero => intro x1 x2 x3 x4 hf; cases hf
  | succ w ih =>
    intro x1 x2 x3 x4 hf
    unfold F10_gainBy_b5 at hf
    refine xV_iload 7 rfl dX10_gainBy_5 4 rfl ?_
    refine xV_aload_n 8 rfl dX10_gainBy_7 rfl 0 rfl ?_
    refine xV_get (v := .ref 3) 11 rfl dX10_gainBy_8 f10_24 rfl rfl ?_
    refine xV_iload_n 12 rfl dX10_gainBy_11 rfl 1 rfl ?_
    obtain ⟨hg12, hf⟩ := xg_s hf
    refine xV_iaload 13 rfl dX10_gainBy_12 rfl (xin_ok hg12) rfl ?_
    refine xV_icmp_ge (tgt := 55) 16 rfl dX10_gainBy_13 (by decide) (fun h13 => ?_) (fun h13 => ?_)
    · have hf := xif_t hf h13
      refine xV_iload_n 56 rfl dX10_gainBy_55 rfl 3 rfl ?_
      obtain rfl := Option.some.inj hf
      exact xV_iret hX dX10_gainBy_56 rfl (Nat.zero_le _) (Nat.zero_le _)
    · have hf := xif_f hf h13
      refine xV_iload_n 17 rfl dX10_gainBy_16 rfl 3 rfl ?_
      refine xV_aload_n 18 rfl dX10_gainBy_17 rfl 0 rfl ?_
      refine xV_get (v := .ref 19) 21 rfl dX10_gainBy_18 f10_76 rfl rfl ?_
      refine xV_iload 23 rfl dX10_gainBy_21 4 rfl ?_
      obtain ⟨hg23, hf⟩ := xg_s hf
      refine xV_iaload 24 rfl dX10_gainBy_23 rfl (xin_ok hg23) rfl ?_
      refine xV_if_ne (tgt := 31) 27 rfl dX10_gainBy_24 (by decide) (fun h24 => ?_) (fun h24 => ?_)
      · have hf := xif_f hf h24
        refine xV_aload_n 32 rfl dX10_gainBy_31 rfl 0 rfl ?_
        refine xV_get (v := .ref 19) 35 rfl dX10_gainBy_32 f10_76 rfl rfl ?_
        refine xV_iload 37 rfl dX10_gainBy_35 4 rfl ?_
        obtain ⟨hg37, hf⟩ := xg_s hf
        refine xV_iaload 38 rfl dX10_gainBy_37 rfl (xin_ok hg37) rfl ?_
        refine xV_aload_n 39 rfl dX10_gainBy_38 rfl 0 rfl ?_
        refine xV_iload_n 40 rfl dX10_gainBy_39 rfl 1 rfl ?_
        refine xV_iload 42 rfl dX10_gainBy_40 4 rfl ?_
        refine xV_iload_n 43 rfl dX10_gainBy_42 rfl 2 rfl ?_
        obtain ⟨v43, hv43, hf⟩ := xb_s hf
        refine xV_same (rest := [.int (c_shares (xn x4)), .int x3]) 46 rfl dX10_gainBy_43 rfl (C10_gainFor X.1.2.1 hv43) m10_gainFor v10_gainFor k10_233 rfl rfl rfl rfl rfl (Nat.le_of_ble_eq_true rfl) (Nat.le_of_ble_eq_true rfl) (Nat.le_of_ble_eq_true rfl) ⟨Nat.le_refl _, Nat.le_refl _⟩ ?_
        show xV (j10_gainBy) X 0 0 (hM c_thrown c_told c_read c_many c_eights c_gains c_notes c_seen c_turns c_drawn c_state c_tape c_taped c_size c_from c_next c_token c_value c_fault c_number c_fives c_isLeft c_wentTimes c_goes c_isLeftLaid c_game c_rows c_columns c_isFound c_bestValue c_bestBelow c_bestShare c_share c_matrix c_system c_shares c_allShares) 46 [(0, .ref 0), (1, .int x1), (2, .int x2), (3, .int x3), (4, .int x4)] [.int v43, .int (c_shares (xn x4)), .int x3]
        refine xV_imul 47 rfl dX10_gainBy_46 ?_
        refine xV_sub [0, 1, 2, 4] rfl ?_
        exact T10_gainBy_b47 hX (fun {_ _ _ _} hq => ih hq) hf
      · have hf := xif_t hf h24
        refine xV_iconst 28 rfl dX10_gainBy_27 xk_i0 ?_
        refine xV_goto (tgt := 47) dX10_gainBy_28 (by decide) ?_
        refine xV_sub [0, 1, 2, 4] rfl ?_
        exact T10_gainBy_b47 hX (fun {_ _ _ _} hq => ih hq) hf
def F10_gainBy (z : Nat) (x1 : Int32) (x2 : Int32) (c_many : (Nat → Int32)) (c_gains : (Nat → Int32)) (c_shares : (Nat → Int32)) : Option (Int32) :=
  F10_gainBy_b5 z z x1 x2 (0 : Int32) (0 : Int32) c_many c_gains c_shares
theorem T10_gainBy {X : xX} {z : Nat} {x1 : Int32} {x2 : Int32} {c_many : (Nat → Int32)} {c_gains : (Nat → Int32)} {c_shares : (Nat → Int32)} {c_thrown : Int32} {c_told : (Nat → Int32)} {c_read : (Nat → Int32)} {c_eights : (Nat → Int32)} {c_notes : (Nat → Int32)} {c_seen : (Nat → Int32)} {c_turns : (Nat → Int32)} {c_drawn : (Nat → Int32)} {c_state : Int32} {c_tape : (Nat → Int32)} {c_taped : Int32} {c_size : Int32} {c_from : Int32} {c_next : Int32} {c_token : Int32} {c_value : Int32} {c_fault : Int32} {c_number : Int32} {c_fives : (Nat → Int32)} {c_isLeft : (Nat → Int32)} {c_wentTimes : Int32} {c_goes : (Nat → Int32)} {c_isLeftLaid : Int32} {c_game : (Nat → Int32)} {c_rows : Int32} {c_columns : Int32} {c_isFound : Int32} {c_bestValue : Int64} {c_bestBelow : Int64} {c_bestShare : (Nat → Int64)} {c_share : (Nat → Int64)} {c_matrix : (Nat → Int64)} {c_system : (Nat → Int64)} {c_allShares : Int32} {v : Int32} (hX : xIs (j10_gainBy) X ((some .int)) (some (.int v)) (hM c_thrown c_told c_read c_many c_eights c_gains c_notes c_seen c_turns c_drawn c_state c_tape c_taped c_size c_from c_next c_token c_value c_fault c_number c_fives c_isLeft c_wentTimes c_goes c_isLeftLaid c_game c_rows c_columns c_isFound c_bestValue c_bestBelow c_bestShare c_share c_matrix c_system c_shares c_allShares)) (hf : F10_gainBy z x1 x2 c_many c_gains c_shares = some v) : xV (j10_gainBy) X 0 0 (hM c_thrown c_told c_read c_many c_eights c_gains c_notes c_seen c_turns c_drawn c_state c_tape c_taped c_size c_from c_next c_token c_value c_fault c_number c_fives c_isLeft c_wentTimes c_goes c_isLeftLaid c_game c_rows c_columns c_isFound c_bestValue c_bestBelow c_bestShare c_share c_matrix c_system c_shares c_allShares) 0 [(0, .ref 0), (1, .int x1), (2, .int x2)] [] := by
  unfold F10_gainBy at hf
  refine xV_iconst 1 rfl dX10_gainBy_0 xk_i0 ?_
  refine xV_istore_n (L' := [(3, .int (0 : Int32)), (0, .ref 0), (1, .int x1), (2, .int x2)]) 2 rfl dX10_gainBy_1 rfl (xlt rfl) rfl ?_
  refine xV_iconst 3 rfl dX10_gainBy_2 xk_i0 ?_
  refine xV_istore (L' := [(4, .int (0 : Int32)), (3, .int (0 : Int32)), (0, .ref 0), (1, .int x1), (2, .int x2)]) 5 rfl dX10_gainBy_3 (xlt rfl) rfl ?_
  refine xV_sub [2, 3, 4, 1, 0] rfl ?_
  exact T10_gainBy_b5 hX _ hf
theorem C10_gainBy (l : Launch) {z : Nat} {x1 : Int32} {x2 : Int32} {c_many : (Nat → Int32)} {c_gains : (Nat → Int32)} {c_shares : (Nat → Int32)} {c_thrown : Int32} {c_told : (Nat → Int32)} {c_read : (Nat → Int32)} {c_eights : (Nat → Int32)} {c_notes : (Nat → Int32)} {c_seen : (Nat → Int32)} {c_turns : (Nat → Int32)} {c_drawn : (Nat → Int32)} {c_state : Int32} {c_tape : (Nat → Int32)} {c_taped : Int32} {c_size : Int32} {c_from : Int32} {c_next : Int32} {c_token : Int32} {c_value : Int32} {c_fault : Int32} {c_number : Int32} {c_fives : (Nat → Int32)} {c_isLeft : (Nat → Int32)} {c_wentTimes : Int32} {c_goes : (Nat → Int32)} {c_isLeftLaid : Int32} {c_game : (Nat → Int32)} {c_rows : Int32} {c_columns : Int32} {c_isFound : Int32} {c_bestValue : Int64} {c_bestBelow : Int64} {c_bestShare : (Nat → Int64)} {c_share : (Nat → Int64)} {c_matrix : (Nat → Int64)} {c_system : (Nat → Int64)} {c_allShares : Int32} {v : Int32} (hf : F10_gainBy z x1 x2 c_many c_gains c_shares = some v) : xCt l yX10_gainBy ((some .int)) j10_gainBy [.ref 0, .int x1, .int x2] (hM c_thrown c_told c_read c_many c_eights c_gains c_notes c_seen c_turns c_drawn c_state c_tape c_taped c_size c_from c_next c_token c_value c_fault c_number c_fives c_isLeft c_wentTimes c_goes c_isLeftLaid c_game c_rows c_columns c_isFound c_bestValue c_bestBelow c_bestShare c_share c_matrix c_system c_shares c_allShares) (some (.int v)) (hM c_thrown c_told c_read c_many c_eights c_gains c_notes c_seen c_turns c_drawn c_state c_tape c_taped c_size c_from c_next c_token c_value c_fault c_number c_fives c_isLeft c_wentTimes c_goes c_isLeftLaid c_game c_rows c_columns c_isFound c_bestValue c_bestBelow c_bestShare c_share c_matrix c_system c_shares c_allShares) := xCt_of (by decide) rfl (Nat.le_of_ble_eq_true rfl) (fun _ hX => T10_gainBy hX hf)
theorem m10_gainBy : xMd yX10_gainBy RX10 ((some .int)) j10_gainBy 2 := ⟨List.mem_of_getElem? (i := 1128) (by decide +kernel), List.mem_of_getElem? (i := 5) (by decide +kernel), rfl, by decide +kernel⟩
theorem v10_gainBy : xMv yX10_gainBy RX10 := ⟨List.mem_of_getElem? (i := 1126) (by decide +kernel), List.mem_of_getElem? (i := 1127) (by decide +kernel)⟩
theorem k10_346 : Cond.methodLink RX10 346 yX10_gainBy ∈ wsL_law0 := List.mem_of_getElem? (i := 1125) (by decide +kernel)
theorem dX10_replyTo_0 : decode cX10_replyTo 0 = .ok (.iconst 0, 1) := by decide +kernel
theorem dX10_replyTo_1 : decode cX10_replyTo 1 = .ok (.istore_n 2, 1) := by decide +kernel
theorem dX10_replyTo_2 : decode cX10_replyTo 2 = .ok (.iconst 1, 1) := by decide +kernel
theorem dX10_replyTo_3 : decode cX10_replyTo 3 = .ok (.istore_n 3, 1) := by decide +kernel
theorem dX10_replyTo_4 : decode cX10_replyTo 4 = .ok (.iload_n 3, 1) := by decide +kernel
theorem dX10_replyTo_5 : decode cX10_replyTo 5 = .ok (.aload_n 0, 1) := by decide +kernel
theorem dX10_replyTo_6 : decode cX10_replyTo 6 = .ok (.getfield 24, 3) := by decide +kernel
theorem dX10_replyTo_9 : decode cX10_replyTo 9 = .ok (.iconst 1, 1) := by decide +kernel
theorem dX10_replyTo_10 : decode cX10_replyTo 10 = .ok (.iload_n 1, 1) := by decide +kernel
theorem dX10_replyTo_11 : decode cX10_replyTo 11 = .ok (.isub, 1) := by decide +kernel
theorem dX10_replyTo_12 : decode cX10_replyTo 12 = .ok (.iaload, 1) := by decide +kernel
theorem dX10_replyTo_13 : decode cX10_replyTo 13 = .ok (.if_icmp .ge 30, 3) := by decide +kernel
theorem dX10_replyTo_16 : decode cX10_replyTo 16 = .ok (.aload_n 0, 1) := by decide +kernel
theorem dX10_replyTo_17 : decode cX10_replyTo 17 = .ok (.iload_n 1, 1) := by decide +kernel
theorem dX10_replyTo_18 : decode cX10_replyTo 18 = .ok (.iload_n 3, 1) := by decide +kernel
theorem dX10_replyTo_19 : decode cX10_replyTo 19 = .ok (.invokevirtual 346, 3) := by decide +kernel
theorem dX10_replyTo_22 : decode cX10_replyTo 22 = .ok (.aload_n 0, 1) := by decide +kernel
theorem dX10_replyTo_23 : decode cX10_replyTo 23 = .ok (.iload_n 1, 1) := by decide +kernel
theorem dX10_replyTo_24 : decode cX10_replyTo 24 = .ok (.iload_n 2, 1) := by decide +kernel
theorem dX10_replyTo_25 : decode cX10_replyTo 25 = .ok (.invokevirtual 346, 3) := by decide +kernel
theorem dX10_replyTo_28 : decode cX10_replyTo 28 = .ok (.if_icmp .ge 7, 3) := by decide +kernel
theorem dX10_replyTo_31 : decode cX10_replyTo 31 = .ok (.iload_n 3, 1) := by decide +kernel
theorem dX10_replyTo_32 : decode cX10_replyTo 32 = .ok (.goto 4, 3) := by decide +kernel
theorem dX10_replyTo_35 : decode cX10_replyTo 35 = .ok (.iload_n 2, 1) := by decide +kernel
theorem dX10_replyTo_36 : decode cX10_replyTo 36 = .ok (.istore_n 2, 1) := by decide +kernel
theorem dX10_replyTo_37 : decode cX10_replyTo 37 = .ok (.iinc 3 1, 3) := by decide +kernel
theorem dX10_replyTo_40 : decode cX10_replyTo 40 = .ok (.goto (-36), 3) := by decide +kernel
theorem dX10_replyTo_43 : decode cX10_replyTo 43 = .ok (.iload_n 2, 1) := by decide +kernel
theorem dX10_replyTo_44 : decode cX10_replyTo 44 = .ok (.ireturn, 1) := by decide +kernel
abbrev j10_replyTo : xJ := (cX10_replyTo, 4, RX10, 3, 0, 0)
def F10_replyTo_b36 (z : Nat) (x1 : Int32) (x3 : Int32) (s0 : Int32) (c_many : (Nat → Int32)) (c_gains : (Nat → Int32)) (c_shares : (Nat → Int32)) (k4 : Int32 → Int32 → Int32 → (Nat → Int32) → (Nat → Int32) → (Nat → Int32) → Option (Int32)) : Option (Int32) :=
  k4 x1 s0 (x3 + (1 : Int32)) c_many c_gains c_shares
theorem T10_replyTo_b36 {X : xX} {c_thrown : Int32} {c_told : (Nat → Int32)} {c_read : (Nat → Int32)} {c_eights : (Nat → Int32)} {c_notes : (Nat → Int32)} {c_seen : (Nat → Int32)} {c_turns : (Nat → Int32)} {c_drawn : (Nat → Int32)} {c_state : Int32} {c_tape : (Nat → Int32)} {c_taped : Int32} {c_size : Int32} {c_from : Int32} {c_next : Int32} {c_token : Int32} {c_value : Int32} {c_fault : Int32} {c_number : Int32} {c_fives : (Nat → Int32)} {c_isLeft : (Nat → Int32)} {c_wentTimes : Int32} {c_goes : (Nat → Int32)} {c_isLeftLaid : Int32} {c_game : (Nat → Int32)} {c_rows : Int32} {c_columns : Int32} {c_isFound : Int32} {c_bestValue : Int64} {c_bestBelow : Int64} {c_bestShare : (Nat → Int64)} {c_share : (Nat → Int64)} {c_matrix : (Nat → Int64)} {c_system : (Nat → Int64)} {c_allShares : Int32} {x1 : Int32} {x3 : Int32} {s0 : Int32} {c_many : (Nat → Int32)} {c_gains : (Nat → Int32)} {c_shares : (Nat → Int32)} {z : Nat} {v : Int32} {k4 : Int32 → Int32 → Int32 → (Nat → Int32) → (Nat → Int32) → (Nat → Int32) → Option (Int32)} (hX : xIs (j10_replyTo) X ((some .int)) (some (.int v)) (hM c_thrown c_told c_read c_many c_eights c_gains c_notes c_seen c_turns c_drawn c_state c_tape c_taped c_size c_from c_next c_token c_value c_fault c_number c_fives c_isLeft c_wentTimes c_goes c_isLeftLaid c_game c_rows c_columns c_isFound c_bestValue c_bestBelow c_bestShare c_share c_matrix c_system c_shares c_allShares)) (hk4 : ∀ {x1 : Int32} {x2 : Int32} {x3 : Int32}, k4 x1 x2 x3 c_many c_gains c_shares = some v → xV (j10_replyTo) X 0 0 (hM c_thrown c_told c_read c_many c_eights c_gains c_notes c_seen c_turns c_drawn c_state c_tape c_taped c_size c_from c_next c_token c_value c_fault c_number c_fives c_isLeft c_wentTimes c_goes c_isLeftLaid c_game c_rows c_columns c_isFound c_bestValue c_bestBelow c_bestShare c_share c_matrix c_system c_shares c_allShares) 4 [(0, .ref 0), (1, .int x1), (2, .int x2), (3, .int x3)] []) (hf : F10_replyTo_b36 z x1 x3 s0 c_many c_gains c_shares k4 = some v) : xV (j10_replyTo) X 0 0 (hM c_thrown c_told c_read c_many c_eights c_gains c_notes c_seen c_turns c_drawn c_state c_tape c_taped c_size c_from c_next c_token c_value c_fault c_number c_fives c_isLeft c_wentTimes c_goes c_isLeftLaid c_game c_rows c_columns c_isFound c_bestValue c_bestBelow c_bestShare c_share c_matrix c_system c_shares c_allShares) 36 [(0, .ref 0), (1, .int x1), (3, .int x3)] [.int s0] := by
  unfold F10_replyTo_b36 at hf
  refine xV_istore_n (L' := [(2, .int s0), (0, .ref 0), (1, .int x1), (3, .int x3)]) 37 rfl dX10_replyTo_36 rfl (xlt rfl) rfl ?_
  refine xV_iinc (L' := [(3, .int (x3 + (1 : Int32))), (2, .int s0), (0, .ref 0), (1, .int x1)]) 40 rfl dX10_replyTo_37 3 rfl (xk_inc xk_i1) (xlt rfl) rfl ?_
  refine xV_goto (tgt := 4) dX10_replyTo_40 (by decide) ?_
  refine xV_sub [2, 3, 1, 0] rfl ?_
  exact hk4 hf
def F10_replyTo_b4 (z : Nat) (w : Nat) (x1 : Int32) (x2 : Int32) (x3 : Int32) (c_many : (Nat → Int32)) (c_gains : (Nat → Int32)) (c_shares : (Nat → Int32)) : Option (Int32) := match w with
  | 0 => none
  | w + 1 => xg (xin ((1 : Int32) - x1) 2) (if (c_many (xn ((1 : Int32) - x1))) ≤ x3 then (some (x2)) else ((F10_gainBy z x1 x3 c_many c_gains c_shares).bind (fun v19 => (F10_gainBy z x1 x2 c_many c_gains c_shares).bind (fun v25 => if v25 ≤ v19 then (F10_replyTo_b36 z x1 x3 x2 c_many c_gains c_shares (fun q0 q1 q2 q3 q4 q5 => F10_replyTo_b4 z w q0 q1 q2 q3 q4 q5)) else (F10_replyTo_b36 z x1 x3 x3 c_many c_gains c_shares (fun q0 q1 q2 q3 q4 q5 => F10_replyTo_b4 z w q0 q1 q2 q3 q4 q5))))))
theorem T10_replyTo_b4 {X : xX} {c_thrown : Int32} {c_told : (Nat → Int32)} {c_read : (Nat → Int32)} {c_many : (Nat → Int32)} {c_eights : (Nat → Int32)} {c_gains : (Nat → Int32)} {c_notes : (Nat → Int32)} {c_seen : (Nat → Int32)} {c_turns : (Nat → Int32)} {c_drawn : (Nat → Int32)} {c_state : Int32} {c_tape : (Nat → Int32)} {c_taped : Int32} {c_size : Int32} {c_from : Int32} {c_next : Int32} {c_token : Int32} {c_value : Int32} {c_fault : Int32} {c_number : Int32} {c_fives : (Nat → Int32)} {c_isLeft : (Nat → Int32)} {c_wentTimes : Int32} {c_goes : (Nat → Int32)} {c_isLeftLaid : Int32} {c_game : (Nat → Int32)} {c_rows : Int32} {c_columns : Int32} {c_isFound : Int32} {c_bestValue : Int64} {c_bestBelow : Int64} {c_bestShare : (Nat → Int64)} {c_share : (Nat → Int64)} {c_matrix : (Nat → Int64)} {c_system : (Nat → Int64)} {c_shares : (Nat → Int32)} {c_allShares : Int32} {z : Nat} {v : Int32} (hX : xIs (j10_replyTo) X ((some .int)) (some (.int v)) (hM c_thrown c_told c_read c_many c_eights c_gains c_notes c_seen c_turns c_drawn c_state c_tape c_taped c_size c_from c_next c_token c_value c_fault c_number c_fives c_isLeft c_wentTimes c_goes c_isLeftLaid c_game c_rows c_columns c_isFound c_bestValue c_bestBelow c_bestShare c_share c_matrix c_system c_shares c_allShares)) : ∀ (w : Nat) {x1 : Int32} {x2 : Int32} {x3 : Int32}, F10_replyTo_b4 z w x1 x2 x3 c_many c_gains c_shares = some v → xV (j10_replyTo) X 0 0 (hM c_thrown c_told c_read c_many c_eights c_gains c_notes c_seen c_turns c_drawn c_state c_tape c_taped c_size c_from c_next c_token c_value c_fault c_number c_fives c_isLeft c_wentTimes c_goes c_isLeftLaid c_game c_rows c_columns c_isFound c_bestValue c_bestBelow c_bestShare c_share c_matrix c_system c_shares c_allShares) 4 [(0, .ref 0), (1, .int x1), (2, .int x2), (3, .int x3)] [] := by
  intro w
  induction w with
  | zero => intro x1 x2 x3 hf; cases hf
  | succ w ih =>
    intro x1 x2 x3 hf
    unfold F10_replyTo_b4 at hf
    refine xV_iload_n 5 rfl dX10_replyTo_4 rfl 3 rfl ?_
    refine xV_aload_n 6 rfl dX10_replyTo_5 rfl 0 rfl ?_
    refine xV_get (v := .ref 3) 9 rfl dX10_replyTo_6 f10_24 rfl rfl ?_
    refine xV_iconst 10 rfl dX10_replyTo_9 xk_i1 ?_
    refine xV_iload_n 11 rfl dX10_replyTo_10 rfl 1 rfl ?_
    refine xV_isub 12 rfl dX10_replyTo_11 ?_
    obtain ⟨hg12, hf⟩ := xg_s hf
    refine xV_iaload 13 rfl dX10_replyTo_12 rfl (xin_ok hg12) rfl ?_
    refine xV_icmp_ge (tgt := 43) 16 rfl dX10_replyTo_13 (by decide) (fun h13 => ?_) (fun h13 => ?_)
    · have hf := xif_t hf h13
      refine xV_iload_n 44 rfl dX10_replyTo_43 rfl 2 rfl ?_
      obtain rfl := Option.some.inj hf
      exact xV_iret hX dX10_replyTo_44 rfl (Nat.zero_le _) (Nat.zero_le _)
    · have hf := xif_f hf h13
      refine xV_aload_n 17 rfl dX10_replyTo_16 rfl 0 rfl ?_
      refine xV_iload_n 18 rfl dX10_replyTo_17 rfl 1 rfl ?_
      refine xV_iload_n 19 rfl dX10_replyTo_18 rfl 3 rfl ?_
      obtain ⟨v19, hv19, hf⟩ := xb_s hf
      refine xV_same (rest := []) 22 rfl dX10_replyTo_19 rfl (C10_gainBy X.1.2.1 hv19) m10_gainBy v10_gainBy k10_346 rfl rfl rfl rfl rfl (Nat.le_of_ble_eq_true rfl) (Nat.le_of_ble_eq_true rfl) (Nat.le_of_ble_eq_true rfl) ⟨Nat.le_refl _, Nat.le_refl _⟩ ?_
      show xV (j10_replyTo) X 0 0 (hM c_thrown c_told c_read c_many c_eights c_gains c_notes c_seen c_turns c_drawn c_state c_tape c_taped c_size c_from c_next c_token c_value c_fault c_number c_fives c_isLeft c_wentTimes c_goes c_isLeftLaid c_game c_rows c_columns c_isFound c_bestValue c_bestBelow c_bestShare c_share c_matrix c_system c_shares c_allShares) 22 [(0, .ref 0), (1, .int x1), (2, .int x2), (3, .int x3)] [.int v19]
      refine xV_aload_n 23 rfl dX10_replyTo_22 rfl 0 rfl ?_
      refine xV_iload_n 24 rfl dX10_replyTo_23 rfl 1 rfl ?_
      refine xV_iload_n 25 rfl dX10_replyTo_24 rfl 2 rfl ?_
      obtain ⟨v25, hv25, hf⟩ := xb_s hf
      refine xV_same (rest := [.int v19]) 28 rfl dX10_replyTo_25 rfl (C10_gainBy X.1.2.1 hv25) m10_gainBy v10_gainBy k10_346 rfl rfl rfl rfl rfl (Nat.le_of_ble_eq_true rfl) (Nat.le_of_ble_eq_true rfl) (Nat.le_of_ble_eq_true rfl) ⟨Nat.le_refl _, Nat.le_refl _⟩ ?_
      show xV (j10_replyTo) X 0 0 (hM c_thrown c_told c_read c_many c_eights c_gains c_notes c_seen c_turns c_drawn c_state c_tape c_taped c_size c_from c_next c_token c_value c_fault c_number c_fives c_isLeft c_wentTimes c_goes c_isLeftLaid c_game c_rows c_columns c_isFound c_bestValue c_bestBelow c_bestShare c_share c_matrix c_system c_shares c_allShares) 28 [(0, .ref 0), (1, .int x1), (2, .int x2), (3, .int x3)] [.int v25, .int v19]
      refine xV_icmp_ge (tgt := 35) 31 rfl dX10_replyTo_28 (by decide) (fun h28 => ?_) (fun h28 => ?_)
      · have hf := xif_t hf h28
        refine xV_iload_n 36 rfl dX10_replyTo_35 rfl 2 rfl ?_
        refine xV_sub [0, 1, 3] rfl ?_
        exact T10_replyTo_b36 hX (fun {_ _ _} hq => ih hq) hf
      · have hf := xif_f hf h28
        refine xV_iload_n 32 rfl dX10_replyTo_31 rfl 3 rfl ?_
        refine xV_goto (tgt := 36) dX10_replyTo_32 (by decide) ?_
        refine xV_sub [0, 1, 3] rfl ?_
        exact T10_replyTo_b36 hX (fun {_ _ _} hq => ih hq) hf
def F10_replyTo (z : Nat) (x1 : Int32) (c_many : (Nat → Int32)) (c_gains : (Nat → Int32)) (c_shares : (Nat → Int32)) : Option (Int32) :=
  F10_replyTo_b4 z z x1 (0 : Int32) (1 : Int32) c_many c_gains c_shares
theorem T10_replyTo {X : xX} {z : Nat} {x1 : Int32} {c_many : (Nat → Int32)} {c_gains : (Nat → Int32)} {c_shares : (Nat → Int32)} {c_thrown : Int32} {c_told : (Nat → Int32)} {c_read : (Nat → Int32)} {c_eights : (Nat → Int32)} {c_notes : (Nat → Int32)} {c_seen : (Nat → Int32)} {c_turns : (Nat → Int32)} {c_drawn : (Nat → Int32)} {c_state : Int32} {c_tape : (Nat → Int32)} {c_taped : Int32} {c_size : Int32} {c_from : Int32} {c_next : Int32} {c_token : Int32} {c_value : Int32} {c_fault : Int32} {c_number : Int32} {c_fives : (Nat → Int32)} {c_isLeft : (Nat → Int32)} {c_wentTimes : Int32} {c_goes : (Nat → Int32)} {c_isLeftLaid : Int32} {c_game : (Nat → Int32)} {c_rows : Int32} {c_columns : Int32} {c_isFound : Int32} {c_bestValue : Int64} {c_bestBelow : Int64} {c_bestShare : (Nat → Int64)} {c_share : (Nat → Int64)} {c_matrix : (Nat → Int64)} {c_system : (Nat → Int64)} {c_allShares : Int32} {v : Int32} (hX : xIs (j10_replyTo) X ((some .int)) (some (.int v)) (hM c_thrown c_told c_read c_many c_eights c_gains c_notes c_seen c_turns c_drawn c_state c_tape c_taped c_size c_from c_next c_token c_value c_fault c_number c_fives c_isLeft c_wentTimes c_goes c_isLeftLaid c_game c_rows c_columns c_isFound c_bestValue c_bestBelow c_bestShare c_share c_matrix c_system c_shares c_allShares)) (hf : F10_replyTo z x1 c_many c_gains c_shares = some v) : xV (j10_replyTo) X 0 0 (hM c_thrown c_told c_read c_many c_eights c_gains c_notes c_seen c_turns c_drawn c_state c_tape c_taped c_size c_from c_next c_token c_value c_fault c_number c_fives c_isLeft c_wentTimes c_goes c_isLeftLaid c_game c_rows c_columns c_isFound c_bestValue c_bestBelow c_bestShare c_share c_matrix c_system c_shares c_allShares) 0 [(0, .ref 0), (1, .int x1)] [] := by
  unfold F10_replyTo at hf
  refine xV_iconst 1 rfl dX10_replyTo_0 xk_i0 ?_
  refine xV_istore_n (L' := [(2, .int (0 : Int32)), (0, .ref 0), (1, .int x1)]) 2 rfl dX10_replyTo_1 rfl (xlt rfl) rfl ?_
  refine xV_iconst 3 rfl dX10_replyTo_2 xk_i1 ?_
  refine xV_istore_n (L' := [(3, .int (1 : Int32)), (2, .int (0 : Int32)), (0, .ref 0), (1, .int x1)]) 4 rfl dX10_replyTo_3 rfl (xlt rfl) rfl ?_
  refine xV_sub [2, 3, 1, 0] rfl ?_
  exact T10_replyTo_b4 hX _ hf
theorem C10_replyTo (l : Launch) {z : Nat} {x1 : Int32} {c_many : (Nat → Int32)} {c_gains : (Nat → Int32)} {c_shares : (Nat → Int32)} {c_thrown : Int32} {c_told : (Nat → Int32)} {c_read : (Nat → Int32)} {c_eights : (Nat → Int32)} {c_notes : (Nat → Int32)} {c_seen : (Nat → Int32)} {c_turns : (Nat → Int32)} {c_drawn : (Nat → Int32)} {c_state : Int32} {c_tape : (Nat → Int32)} {c_taped : Int32} {c_size : Int32} {c_from : Int32} {c_next : Int32} {c_token : Int32} {c_value : Int32} {c_fault : Int32} {c_number : Int32} {c_fives : (Nat → Int32)} {c_isLeft : (Nat → Int32)} {c_wentTimes : Int32} {c_goes : (Nat → Int32)} {c_isLeftLaid : Int32} {c_game : (Nat → Int32)} {c_rows : Int32} {c_columns : Int32} {c_isFound : Int32} {c_bestValue : Int64} {c_bestBelow : Int64} {c_bestShare : (Nat → Int64)} {c_share : (Nat → Int64)} {c_matrix : (Nat → Int64)} {c_system : (Nat → Int64)} {c_allShares : Int32} {v : Int32} (hf : F10_replyTo z x1 c_many c_gains c_shares = some v) : xCt l yX10_replyTo ((some .int)) j10_replyTo [.ref 0, .int x1] (hM c_thrown c_told c_read c_many c_eights c_gains c_notes c_seen c_turns c_drawn c_state c_tape c_taped c_size c_from c_next c_token c_value c_fault c_number c_fives c_isLeft c_wentTimes c_goes c_isLeftLaid c_game c_rows c_columns c_isFound c_bestValue c_bestBelow c_bestShare c_share c_matrix c_system c_shares c_allShares) (some (.int v)) (hM c_thrown c_told c_read c_many c_eights c_gains c_notes c_seen c_turns c_drawn c_state c_tape c_taped c_size c_from c_next c_token c_value c_fault c_number c_fives c_isLeft c_wentTimes c_goes c_isLeftLaid c_game c_rows c_columns c_isFound c_bestValue c_bestBelow c_bestShare c_share c_matrix c_system c_shares c_allShares) := xCt_of (by decide) rfl (Nat.le_of_ble_eq_true rfl) (fun _ hX => T10_replyTo hX hf)
theorem m10_replyTo : xMd yX10_replyTo RX10 ((some .int)) j10_replyTo 1 := ⟨List.mem_of_getElem? (i := 1124) (by decide +kernel), List.mem_of_getElem? (i := 5) (by decide +kernel), rfl, by decide +kernel⟩
theorem v10_replyTo : xMv yX10_replyTo RX10 := ⟨List.mem_of_getElem? (i := 1122) (by decide +kernel), List.mem_of_getElem? (i := 1123) (by decide +kernel)⟩
theorem dX10_hasPlan_0 : decode cX10_hasPlan 0 = .ok (.iload_n 1, 1) := by decide +kernel
theorem dX10_hasPlan_1 : decode cX10_hasPlan 1 = .ok (.invokestatic 105, 3) := by decide +kernel
theorem dX10_hasPlan_4 : decode cX10_hasPlan 4 = .ok (.ifCond .eq 15, 3) := by decide +kernel
theorem dX10_hasPlan_7 : decode cX10_hasPlan 7 = .ok (.aload_n 0, 1) := by decide +kernel
theorem dX10_hasPlan_8 : decode cX10_hasPlan 8 = .ok (.iload_n 1, 1) := by decide +kernel
theorem dX10_hasPlan_9 : decode cX10_hasPlan 9 = .ok (.invokevirtual 328, 3) := by decide +kernel
theorem dX10_hasPlan_12 : decode cX10_hasPlan 12 = .ok (.ifCond .le 7, 3) := by decide +kernel
theorem dX10_hasPlan_15 : decode cX10_hasPlan 15 = .ok (.iconst 1, 1) := by decide +kernel
theorem dX10_hasPlan_16 : decode cX10_hasPlan 16 = .ok (.goto 4, 3) := by decide +kernel
theorem dX10_hasPlan_19 : decode cX10_hasPlan 19 = .ok (.iconst 0, 1) := by decide +kernel
theorem dX10_hasPlan_20 : decode cX10_hasPlan 20 = .ok (.ireturn, 1) := by decide +kernel
abbrev j10_hasPlan : xJ := (cX10_hasPlan, 2, RX10, 3, 0, 0)
def F10_hasPlan (x1 : Int32) (c_told : (Nat → Int32)) : Option (Int32) :=
  (F10_isSide x1).bind (fun v1 => if v1 = 0 then (some ((0 : Int32))) else ((F10_planned x1 c_told).bind (fun v9 => if v9 ≤ 0 then (some ((0 : Int32))) else (some ((1 : Int32))))))
theorem T10_hasPlan {X : xX} {x1 : Int32} {c_told : (Nat → Int32)} {c_thrown : Int32} {c_read : (Nat → Int32)} {c_many : (Nat → Int32)} {c_eights : (Nat → Int32)} {c_gains : (Nat → Int32)} {c_notes : (Nat → Int32)} {c_seen : (Nat → Int32)} {c_turns : (Nat → Int32)} {c_drawn : (Nat → Int32)} {c_state : Int32} {c_tape : (Nat → Int32)} {c_taped : Int32} {c_size : Int32} {c_from : Int32} {c_next : Int32} {c_token : Int32} {c_value : Int32} {c_fault : Int32} {c_number : Int32} {c_fives : (Nat → Int32)} {c_isLeft : (Nat → Int32)} {c_wentTimes : Int32} {c_goes : (Nat → Int32)} {c_isLeftLaid : Int32} {c_game : (Nat → Int32)} {c_rows : Int32} {c_columns : Int32} {c_isFound : Int32} {c_bestValue : Int64} {c_bestBelow : Int64} {c_bestShare : (Nat → Int64)} {c_share : (Nat → Int64)} {c_matrix : (Nat → Int64)} {c_system : (Nat → Int64)} {c_shares : (Nat → Int32)} {c_allShares : Int32} {v : Int32} (hX : xIs (j10_hasPlan) X ((some .boolean)) (some (.int v)) (hM c_thrown c_told c_read c_many c_eights c_gains c_notes c_seen c_turns c_drawn c_state c_tape c_taped c_size c_from c_next c_token c_value c_fault c_number c_fives c_isLeft c_wentTimes c_goes c_isLeftLaid c_game c_rows c_columns c_isFound c_bestValue c_bestBelow c_bestShare c_share c_matrix c_system c_shares c_allShares)) (hf : F10_hasPlan x1 c_told = some v) : xV (j10_hasPlan) X 0 0 (hM c_thrown c_told c_read c_many c_eights c_gains c_notes c_seen c_turns c_drawn c_state c_tape c_taped c_size c_from c_next c_token c_value c_fault c_number c_fives c_isLeft c_wentTimes c_goes c_isLeftLaid c_game c_rows c_columns c_isFound c_bestValue c_bestBelow c_bestShare c_share c_matrix c_system c_shares c_allShares) 0 [(0, .ref 0), (1, .int x1)] [] := by
  unfold F10_hasPlan at hf
  refine xV_iload_n 1 rfl dX10_hasPlan_0 rfl 1 rfl ?_
  obtain ⟨v1, hv1, hf⟩ := xb_s hf
  refine xV_st0 (rest := []) 4 rfl dX10_hasPlan_1 rfl (C10_isSide X.1.2.1 hv1) m10_isSide s10_isSide k10_105 rfl (Nat.le_of_ble_eq_true rfl) (Nat.le_of_ble_eq_true rfl) (Nat.le_of_ble_eq_true rfl) ⟨Nat.le_refl _, Nat.le_refl _⟩ ?_
  show xV (j10_hasPlan) X 0 0 (hM c_thrown c_told c_read c_many c_eights c_gains c_notes c_seen c_turns c_drawn c_state c_tape c_taped c_size c_from c_next c_token c_value c_fault c_number c_fives c_isLeft c_wentTimes c_goes c_isLeftLaid c_game c_rows c_columns c_isFound c_bestValue c_bestBelow c_bestShare c_share c_matrix c_system c_shares c_allShares) 4 [(0, .ref 0), (1, .int x1)] [.int v1]
  refine xV_if_eq (tgt := 19) 7 rfl dX10_hasPlan_4 (by decide) (fun h4 => ?_) (fun h4 => ?_)
  · have hf := xif_t hf h4
    refine xV_iconst 20 rfl dX10_hasPlan_19 xk_i0 ?_
    obtain rfl := Option.some.inj hf
    exact xV_iret hX dX10_hasPlan_20 (xbo_ok rfl) (Nat.zero_le _) (Nat.zero_le _)
  · have hf := xif_f hf h4
    refine xV_aload_n 8 rfl dX10_hasPlan_7 rfl 0 rfl ?_
    refine xV_iload_n 9 rfl dX10_hasPlan_8 rfl 1 rfl ?_
    obtain ⟨v9, hv9, hf⟩ := xb_s hf
    refine xV_same (rest := []) 12 rfl dX10_hasPlan_9 rfl (C10_planned X.1.2.1 hv9) m10_planned v10_planned k10_328 rfl rfl rfl rfl rfl (Nat.le_of_ble_eq_true rfl) (Nat.le_of_ble_eq_true rfl) (Nat.le_of_ble_eq_true rfl) ⟨Nat.le_refl _, Nat.le_refl _⟩ ?_
    show xV (j10_hasPlan) X 0 0 (hM c_thrown c_told c_read c_many c_eights c_gains c_notes c_seen c_turns c_drawn c_state c_tape c_taped c_size c_from c_next c_token c_value c_fault c_number c_fives c_isLeft c_wentTimes c_goes c_isLeftLaid c_game c_rows c_columns c_isFound c_bestValue c_bestBelow c_bestShare c_share c_matrix c_system c_shares c_allShares) 12 [(0, .ref 0), (1, .int x1)] [.int v9]
    refine xV_if_le (tgt := 19) 15 rfl dX10_hasPlan_12 (by decide) (fun h12 => ?_) (fun h12 => ?_)
    · have hf := xif_t hf h12
      refine xV_iconst 20 rfl dX10_hasPlan_19 xk_i0 ?_
      obtain rfl := Option.some.inj hf
      exact xV_iret hX dX10_hasPlan_20 (xbo_ok rfl) (Nat.zero_le _) (Nat.zero_le _)
    · have hf := xif_f hf h12
      refine xV_iconst 16 rfl dX10_hasPlan_15 xk_i1 ?_
      refine xV_goto (tgt := 20) dX10_hasPlan_16 (by decide) ?_
      obtain rfl := Option.some.inj hf
      exact xV_iret hX dX10_hasPlan_20 (xbo_ok rfl) (Nat.zero_le _) (Nat.zero_le _)
theorem C10_hasPlan (l : Launch) {x1 : Int32} {c_told : (Nat → Int32)} {c_thrown : Int32} {c_read : (Nat → Int32)} {c_many : (Nat → Int32)} {c_eights : (Nat → Int32)} {c_gains : (Nat → Int32)} {c_notes : (Nat → Int32)} {c_seen : (Nat → Int32)} {c_turns : (Nat → Int32)} {c_drawn : (Nat → Int32)} {c_state : Int32} {c_tape : (Nat → Int32)} {c_taped : Int32} {c_size : Int32} {c_from : Int32} {c_next : Int32} {c_token : Int32} {c_value : Int32} {c_fault : Int32} {c_number : Int32} {c_fives : (Nat → Int32)} {c_isLeft : (Nat → Int32)} {c_wentTimes : Int32} {c_goes : (Nat → Int32)} {c_isLeftLaid : Int32} {c_game : (Nat → Int32)} {c_rows : Int32} {c_columns : Int32} {c_isFound : Int32} {c_bestValue : Int64} {c_bestBelow : Int64} {c_bestShare : (Nat → Int64)} {c_share : (Nat → Int64)} {c_matrix : (Nat → Int64)} {c_system : (Nat → Int64)} {c_shares : (Nat → Int32)} {c_allShares : Int32} {v : Int32} (hf : F10_hasPlan x1 c_told = some v) : xCt l yX10_hasPlan ((some .boolean)) j10_hasPlan [.ref 0, .int x1] (hM c_thrown c_told c_read c_many c_eights c_gains c_notes c_seen c_turns c_drawn c_state c_tape c_taped c_size c_from c_next c_token c_value c_fault c_number c_fives c_isLeft c_wentTimes c_goes c_isLeftLaid c_game c_rows c_columns c_isFound c_bestValue c_bestBelow c_bestShare c_share c_matrix c_system c_shares c_allShares) (some (.int v)) (hM c_thrown c_told c_read c_many c_eights c_gains c_notes c_seen c_turns c_drawn c_state c_tape c_taped c_size c_from c_next c_token c_value c_fault c_number c_fives c_isLeft c_wentTimes c_goes c_isLeftLaid c_game c_rows c_columns c_isFound c_bestValue c_bestBelow c_bestShare c_share c_matrix c_system c_shares c_allShares) := xCt_of (by decide) rfl (Nat.le_of_ble_eq_true rfl) (fun _ hX => T10_hasPlan hX hf)
theorem m10_hasPlan : xMd yX10_hasPlan RX10 ((some .boolean)) j10_hasPlan 1 := ⟨List.mem_of_getElem? (i := 1112) (by decide +kernel), List.mem_of_getElem? (i := 5) (by decide +kernel), rfl, by decide +kernel⟩
theorem v10_hasPlan : xMv yX10_hasPlan RX10 := ⟨List.mem_of_getElem? (i := 1110) (by decide +kernel), List.mem_of_getElem? (i := 1111) (by decide +kernel)⟩
theorem k10_349 : Cond.methodLink RX10 349 yX10_hasPlan ∈ wsL_law0 := List.mem_of_getElem? (i := 1109) (by decide +kernel)
theorem k10_352 : Cond.methodLink RX10 352 yX10_laysShares ∈ wsL_law0 := List.mem_of_getElem? (i := 1113) (by decide +kernel)
theorem k10_356 : Cond.methodLink RX10 356 yX10_replyTo ∈ wsL_law0 := List.mem_of_getElem? (i := 1121) (by decide +kernel)
theorem dX10_holdBy_0 : decode cX10_holdBy 0 = .ok (.aload_n 0, 1) := by decide +kernel
theorem dX10_holdBy_1 : decode cX10_holdBy 1 = .ok (.iload_n 1, 1) := by decide +kernel
theorem dX10_holdBy_2 : decode cX10_holdBy 2 = .ok (.invokevirtual 349, 3) := by decide +kernel
theorem dX10_holdBy_5 : decode cX10_holdBy 5 = .ok (.ifCond .eq 12, 3) := by decide +kernel
theorem dX10_holdBy_8 : decode cX10_holdBy 8 = .ok (.iload_n 3, 1) := by decide +kernel
theorem dX10_holdBy_9 : decode cX10_holdBy 9 = .ok (.iconst 0, 1) := by decide +kernel
theorem dX10_holdBy_10 : decode cX10_holdBy 10 = .ok (.iconst 1, 1) := by decide +kernel
theorem dX10_holdBy_11 : decode cX10_holdBy 11 = .ok (.invokestatic 7, 3) := by decide +kernel
theorem dX10_holdBy_14 : decode cX10_holdBy 14 = .ok (.ifCond .ne 6, 3) := by decide +kernel
theorem dX10_holdBy_17 : decode cX10_holdBy 17 = .ok (.bipush (-100), 2) := by decide +kernel
theorem dX10_holdBy_19 : decode cX10_holdBy 19 = .ok (.ireturn, 1) := by decide +kernel
theorem dX10_holdBy_20 : decode cX10_holdBy 20 = .ok (.aload_n 0, 1) := by decide +kernel
theorem dX10_holdBy_21 : decode cX10_holdBy 21 = .ok (.iload_n 1, 1) := by decide +kernel
theorem dX10_holdBy_22 : decode cX10_holdBy 22 = .ok (.iload_n 2, 1) := by decide +kernel
theorem dX10_holdBy_23 : decode cX10_holdBy 23 = .ok (.invokevirtual 352, 3) := by decide +kernel
theorem dX10_holdBy_26 : decode cX10_holdBy 26 = .ok (.aload_n 0, 1) := by decide +kernel
theorem dX10_holdBy_27 : decode cX10_holdBy 27 = .ok (.iload_n 1, 1) := by decide +kernel
theorem dX10_holdBy_28 : decode cX10_holdBy 28 = .ok (.aload_n 0, 1) := by decide +kernel
theorem dX10_holdBy_29 : decode cX10_holdBy 29 = .ok (.iload_n 1, 1) := by decide +kernel
theorem dX10_holdBy_30 : decode cX10_holdBy 30 = .ok (.invokevirtual 356, 3) := by decide +kernel
theorem dX10_holdBy_33 : decode cX10_holdBy 33 = .ok (.invokevirtual 346, 3) := by decide +kernel
theorem dX10_holdBy_36 : decode cX10_holdBy 36 = .ok (.i2l, 1) := by decide +kernel
theorem dX10_holdBy_37 : decode cX10_holdBy 37 = .ok (.aload_n 0, 1) := by decide +kernel
theorem dX10_holdBy_38 : decode cX10_holdBy 38 = .ok (.getfield 343, 3) := by decide +kernel
theorem dX10_holdBy_41 : decode cX10_holdBy 41 = .ok (.i2l, 1) := by decide +kernel
theorem dX10_holdBy_42 : decode cX10_holdBy 42 = .ok (.iload_n 3, 1) := by decide +kernel
theorem dX10_holdBy_43 : decode cX10_holdBy 43 = .ok (.invokestatic 324, 3) := by decide +kernel
theorem dX10_holdBy_46 : decode cX10_holdBy 46 = .ok (.ireturn, 1) := by decide +kernel
abbrev j10_holdBy : xJ := (cX10_holdBy, 4, RX10, 7, 0, 0)
def F10_holdBy (z : Nat) (x1 : Int32) (x2 : Int32) (x3 : Int32) (c_told : (Nat → Int32)) (c_many : (Nat → Int32)) (c_eights : (Nat → Int32)) (c_gains : (Nat → Int32)) (c_fives : (Nat → Int32)) (c_shares : (Nat → Int32)) (c_allShares : Int32) : Option (Int32 × (Nat → Int32) × Int32) :=
  (F10_hasPlan x1 c_told).bind (fun v2 => if v2 = 0 then (some ((-100 : Int32), c_shares, c_allShares)) else ((F10_within x3 (0 : Int32) (1 : Int32)).bind (fun v11 => if v11 = 0 then (some ((-100 : Int32), c_shares, c_allShares)) else ((F10_laysShares z x1 x2 c_told c_many c_eights c_fives c_shares c_allShares).bind (fun v23 => (F10_replyTo z x1 c_many c_gains v23.1).bind (fun v30 => (F10_gainBy z x1 v30 c_many c_gains v23.1).bind (fun v33 => (F10_term z (v33).toInt64 (v23.2).toInt64 x3).bind (fun v43 => some (v43, v23.1, v23.2)))))))))
theorem T10_holdBy {X : xX} {z : Nat} {x1 : Int32} {x2 : Int32} {x3 : Int32} {c_told : (Nat → Int32)} {c_many : (Nat → Int32)} {c_eights : (Nat → Int32)} {c_gains : (Nat → Int32)} {c_fives : (Nat → Int32)} {c_shares : (Nat → Int32)} {c_allShares : Int32} {c_thrown : Int32} {c_read : (Nat → Int32)} {c_notes : (Nat → Int32)} {c_seen : (Nat → Int32)} {c_turns : (Nat → Int32)} {c_drawn : (Nat → Int32)} {c_state : Int32} {c_tape : (Nat → Int32)} {c_taped : Int32} {c_size : Int32} {c_from : Int32} {c_next : Int32} {c_token : Int32} {c_value : Int32} {c_fault : Int32} {c_number : Int32} {c_isLeft : (Nat → Int32)} {c_wentTimes : Int32} {c_goes : (Nat → Int32)} {c_isLeftLaid : Int32} {c_game : (Nat → Int32)} {c_rows : Int32} {c_columns : Int32} {c_isFound : Int32} {c_bestValue : Int64} {c_bestBelow : Int64} {c_bestShare : (Nat → Int64)} {c_share : (Nat → Int64)} {c_matrix : (Nat → Int64)} {c_system : (Nat → Int64)} {v : Int32 × (Nat → Int32) × Int32} (hX : xIs (j10_holdBy) X ((some .int)) (some (.int v.1)) (hM c_thrown c_told c_read c_many c_eights c_gains c_notes c_seen c_turns c_drawn c_state c_tape c_taped c_size c_from c_next c_token c_value c_fault c_number c_fives c_isLeft c_wentTimes c_goes c_isLeftLaid c_game c_rows c_columns c_isFound c_bestValue c_bestBelow c_bestShare c_share c_matrix c_system v.2.1 v.2.2)) (hf : F10_holdBy z x1 x2 x3 c_told c_many c_eights c_gains c_fives c_shares c_allShares = some v) : xV (j10_holdBy) X 0 0 (hM c_thrown c_told c_read c_many c_eights c_gains c_notes c_seen c_turns c_drawn c_state c_tape c_taped c_size c_from c_next c_token c_value c_fault c_number c_fives c_isLeft c_wentTimes c_goes c_isLeftLaid c_game c_rows c_columns c_isFound c_bestValue c_bestBelow c_bestShare c_share c_matrix c_system c_shares c_allShares) 0 [(0, .ref 0), (1, .int x1), (2, .int x2), (3, .int x3)] [] := by
  unfold F10_holdBy at hf
  refine xV_aload_n 1 rfl dX10_holdBy_0 rfl 0 rfl ?_
  refine xV_iload_n 2 rfl dX10_holdBy_1 rfl 1 rfl ?_
  obtain ⟨v2, hv2, hf⟩ := xb_s hf
  refine xV_same (rest := []) 5 rfl dX10_holdBy_2 rfl (C10_hasPlan X.1.2.1 hv2) m10_hasPlan v10_hasPlan k10_349 rfl rfl rfl rfl rfl (Nat.le_of_ble_eq_true rfl) (Nat.le_of_ble_eq_true rfl) (Nat.le_of_ble_eq_true rfl) ⟨Nat.le_refl _, Nat.le_refl _⟩ ?_
  show xV (j10_holdBy) X 0 0 (hM c_thrown c_told c_read c_many c_eights c_gains c_notes c_seen c_turns c_drawn c_state c_tape c_taped c_size c_from c_next c_token c_value c_fault c_number c_fives c_isLeft c_wentTimes c_goes c_isLeftLaid c_game c_rows c_columns c_isFound c_bestValue c_bestBelow c_bestShare c_share c_matrix c_system c_shares c_allShares) 5 [(0, .ref 0), (1, .int x1), (2, .int x2), (3, .int x3)] [.int v2]
  refine xV_if_eq (tgt := 17) 8 rfl dX10_holdBy_5 (by decide) (fun h5 => ?_) (fun h5 => ?_)
  · have hf := xif_t hf h5
    refine xV_bipush 19 rfl dX10_holdBy_17 xk_bm100 ?_
    obtain rfl := Option.some.inj hf
    exact xV_iret hX dX10_holdBy_19 rfl (Nat.zero_le _) (Nat.zero_le _)
  · have hf := xif_f hf h5
    refine xV_iload_n 9 rfl dX10_holdBy_8 rfl 3 rfl ?_
    refine xV_iconst 10 rfl dX10_holdBy_9 xk_i0 ?_
    refine xV_iconst 11 rfl dX10_holdBy_10 xk_i1 ?_
    obtain ⟨v11, hv11, hf⟩ := xb_s hf
    refine xV_st0 (rest := []) 14 rfl dX10_holdBy_11 rfl (C10_within X.1.2.1 hv11) m10_within s10_within k10_7 rfl (Nat.le_of_ble_eq_true rfl) (Nat.le_of_ble_eq_true rfl) (Nat.le_of_ble_eq_true rfl) ⟨Nat.le_refl _, Nat.le_refl _⟩ ?_
    show xV (j10_holdBy) X 0 0 (hM c_thrown c_told c_read c_many c_eights c_gains c_notes c_seen c_turns c_drawn c_state c_tape c_taped c_size c_from c_next c_token c_value c_fault c_number c_fives c_isLeft c_wentTimes c_goes c_isLeftLaid c_game c_rows c_columns c_isFound c_bestValue c_bestBelow c_bestShare c_share c_matrix c_system c_shares c_allShares) 14 [(0, .ref 0), (1, .int x1), (2, .int x2), (3, .int x3)] [.int v11]
    refine xV_if_ne (tgt := 20) 17 rfl dX10_holdBy_14 (by decide) (fun h14 => ?_) (fun h14 => ?_)
    · have hf := xif_f hf h14
      refine xV_aload_n 21 rfl dX10_holdBy_20 rfl 0 rfl ?_
      refine xV_iload_n 22 rfl dX10_holdBy_21 rfl 1 rfl ?_
      refine xV_iload_n 23 rfl dX10_holdBy_22 rfl 2 rfl ?_
      obtain ⟨v23, hv23, hf⟩ := xb_s hf
      refine xV_same (rest := []) 26 rfl dX10_holdBy_23 rfl (C10_laysShares X.1.2.1 hv23) m10_laysShares v10_laysShares k10_352 rfl rfl rfl rfl rfl (Nat.le_of_ble_eq_true rfl) (Nat.le_of_ble_eq_true rfl) (Nat.le_of_ble_eq_true rfl) ⟨Nat.le_refl _, Nat.le_refl _⟩ ?_
      show xV (j10_holdBy) X 0 0 (hM c_thrown c_told c_read c_many c_eights c_gains c_notes c_seen c_turns c_drawn c_state c_tape c_taped c_size c_from c_next c_token c_value c_fault c_number c_fives c_isLeft c_wentTimes c_goes c_isLeftLaid c_game c_rows c_columns c_isFound c_bestValue c_bestBelow c_bestShare c_share c_matrix c_system v23.1 v23.2) 26 [(0, .ref 0), (1, .int x1), (2, .int x2), (3, .int x3)] []
      refine xV_aload_n 27 rfl dX10_holdBy_26 rfl 0 rfl ?_
      refine xV_iload_n 28 rfl dX10_holdBy_27 rfl 1 rfl ?_
      refine xV_aload_n 29 rfl dX10_holdBy_28 rfl 0 rfl ?_
      refine xV_iload_n 30 rfl dX10_holdBy_29 rfl 1 rfl ?_
      obtain ⟨v30, hv30, hf⟩ := xb_s hf
      refine xV_same (rest := [.int x1, .ref 0]) 33 rfl dX10_holdBy_30 rfl (C10_replyTo X.1.2.1 hv30) m10_replyTo v10_replyTo k10_356 rfl rfl rfl rfl rfl (Nat.le_of_ble_eq_true rfl) (Nat.le_of_ble_eq_true rfl) (Nat.le_of_ble_eq_true rfl) ⟨Nat.le_refl _, Nat.le_refl _⟩ ?_
      show xV (j10_holdBy) X 0 0 (hM c_thrown c_told c_read c_many c_eights c_gains c_notes c_seen c_turns c_drawn c_state c_tape c_taped c_size c_from c_next c_token c_value c_fault c_number c_fives c_isLeft c_wentTimes c_goes c_isLeftLaid c_game c_rows c_columns c_isFound c_bestValue c_bestBelow c_bestShare c_share c_matrix c_system v23.1 v23.2) 33 [(0, .ref 0), (1, .int x1), (2, .int x2), (3, .int x3)] [.int v30, .int x1, .ref 0]
      obtain ⟨v33, hv33, hf⟩ := xb_s hf
      refine xV_same (rest := []) 36 rfl dX10_holdBy_33 rfl (C10_gainBy X.1.2.1 hv33) m10_gainBy v10_gainBy k10_346 rfl rfl rfl rfl rfl (Nat.le_of_ble_eq_true rfl) (Nat.le_of_ble_eq_true rfl) (Nat.le_of_ble_eq_true rfl) ⟨Nat.le_refl _, Nat.le_refl _⟩ ?_
      show xV (j10_holdBy) X 0 0 (hM c_thrown c_told c_read c_many c_eights c_gains c_notes c_seen c_turns c_drawn c_state c_tape c_taped c_size c_from c_next c_token c_value c_fault c_number c_fives c_isLeft c_wentTimes c_goes c_isLeftLaid c_game c_rows c_columns c_isFound c_bestValue c_bestBelow c_bestShare c_share c_matrix c_system v23.1 v23.2) 36 [(0, .ref 0), (1, .int x1), (2, .int x2), (3, .int x3)] [.int v33]
      refine xV_i2l 37 rfl dX10_holdBy_36 ?_
      refine xV_aload_n 38 rfl dX10_holdBy_37 rfl 0 rfl ?_
      refine xV_get (v := .int v23.2) 41 rfl dX10_holdBy_38 f10_343 rfl rfl ?_
      refine xV_i2l 42 rfl dX10_holdBy_41 ?_
      refine xV_iload_n 43 rfl dX10_holdBy_42 rfl 3 rfl ?_
      obtain ⟨v43, hv43, hf⟩ := xb_s hf
      refine xV_st0 (rest := []) 46 rfl dX10_holdBy_43 rfl (C10_term X.1.2.1 hv43) m10_term s10_term k10_324 rfl (Nat.le_of_ble_eq_true rfl) (Nat.le_of_ble_eq_true rfl) (Nat.le_of_ble_eq_true rfl) ⟨Nat.le_refl _, Nat.le_refl _⟩ ?_
      show xV (j10_holdBy) X 0 0 (hM c_thrown c_told c_read c_many c_eights c_gains c_notes c_seen c_turns c_drawn c_state c_tape c_taped c_size c_from c_next c_token c_value c_fault c_number c_fives c_isLeft c_wentTimes c_goes c_isLeftLaid c_game c_rows c_columns c_isFound c_bestValue c_bestBelow c_bestShare c_share c_matrix c_system v23.1 v23.2) 46 [(0, .ref 0), (1, .int x1), (2, .int x2), (3, .int x3)] [.int v43]
      obtain rfl := Option.some.inj hf
      exact xV_iret hX dX10_holdBy_46 rfl (Nat.zero_le _) (Nat.zero_le _)
    · have hf := xif_t hf h14
      refine xV_bipush 19 rfl dX10_holdBy_17 xk_bm100 ?_
      obtain rfl := Option.some.inj hf
      exact xV_iret hX dX10_holdBy_19 rfl (Nat.zero_le _) (Nat.zero_le _)
theorem C10_holdBy (l : Launch) {z : Nat} {x1 : Int32} {x2 : Int32} {x3 : Int32} {c_told : (Nat → Int32)} {c_many : (Nat → Int32)} {c_eights : (Nat → Int32)} {c_gains : (Nat → Int32)} {c_fives : (Nat → Int32)} {c_shares : (Nat → Int32)} {c_allShares : Int32} {c_thrown : Int32} {c_read : (Nat → Int32)} {c_notes : (Nat → Int32)} {c_seen : (Nat → Int32)} {c_turns : (Nat → Int32)} {c_drawn : (Nat → Int32)} {c_state : Int32} {c_tape : (Nat → Int32)} {c_taped : Int32} {c_size : Int32} {c_from : Int32} {c_next : Int32} {c_token : Int32} {c_value : Int32} {c_fault : Int32} {c_number : Int32} {c_isLeft : (Nat → Int32)} {c_wentTimes : Int32} {c_goes : (Nat → Int32)} {c_isLeftLaid : Int32} {c_game : (Nat → Int32)} {c_rows : Int32} {c_columns : Int32} {c_isFound : Int32} {c_bestValue : Int64} {c_bestBelow : Int64} {c_bestShare : (Nat → Int64)} {c_share : (Nat → Int64)} {c_matrix : (Nat → Int64)} {c_system : (Nat → Int64)} {v : Int32 × (Nat → Int32) × Int32} (hf : F10_holdBy z x1 x2 x3 c_told c_many c_eights c_gains c_fives c_shares c_allShares = some v) : xCt l yX10_holdBy ((some .int)) j10_holdBy [.ref 0, .int x1, .int x2, .int x3] (hM c_thrown c_told c_read c_many c_eights c_gains c_notes c_seen c_turns c_drawn c_state c_tape c_taped c_size c_from c_next c_token c_value c_fault c_number c_fives c_isLeft c_wentTimes c_goes c_isLeftLaid c_game c_rows c_columns c_isFound c_bestValue c_bestBelow c_bestShare c_share c_matrix c_system c_shares c_allShares) (some (.int v.1)) (hM c_thrown c_told c_read c_many c_eights c_gains c_notes c_seen c_turns c_drawn c_state c_tape c_taped c_size c_from c_next c_token c_value c_fault c_number c_fives c_isLeft c_wentTimes c_goes c_isLeftLaid c_game c_rows c_columns c_isFound c_bestValue c_bestBelow c_bestShare c_share c_matrix c_system v.2.1 v.2.2) := xCt_of (by decide) rfl (Nat.le_of_ble_eq_true rfl) (fun _ hX => T10_holdBy hX hf)
theorem m10_holdBy : xMd yX10_holdBy RX10 ((some .int)) j10_holdBy 3 := ⟨List.mem_of_getElem? (i := 1107) (by decide +kernel), List.mem_of_getElem? (i := 5) (by decide +kernel), rfl, by decide +kernel⟩
theorem v10_holdBy : xMv yX10_holdBy RX10 := ⟨List.mem_of_getElem? (i := 1105) (by decide +kernel), List.mem_of_getElem? (i := 1106) (by decide +kernel)⟩
theorem k10_359 : Cond.methodLink RX10 359 yX10_holdBy ∈ wsL_law0 := List.mem_of_getElem? (i := 1104) (by decide +kernel)
theorem dX10_hold_0 : decode cX10_hold 0 = .ok (.aload_n 0, 1) := by decide +kernel
theorem dX10_hold_1 : decode cX10_hold 1 = .ok (.iconst 0, 1) := by decide +kernel
theorem dX10_hold_2 : decode cX10_hold 2 = .ok (.putfield 1, 3) := by decide +kernel
theorem dX10_hold_5 : decode cX10_hold 5 = .ok (.aload_n 0, 1) := by decide +kernel
theorem dX10_hold_6 : decode cX10_hold 6 = .ok (.iload_n 1, 1) := by decide +kernel
theorem dX10_hold_7 : decode cX10_hold 7 = .ok (.iconst 0, 1) := by decide +kernel
theorem dX10_hold_8 : decode cX10_hold 8 = .ok (.iload_n 2, 1) := by decide +kernel
theorem dX10_hold_9 : decode cX10_hold 9 = .ok (.invokevirtual 359, 3) := by decide +kernel
theorem dX10_hold_12 : decode cX10_hold 12 = .ok (.ireturn, 1) := by decide +kernel
abbrev j10_hold : xJ := (cX10_hold, 3, RX10, 8, 0, 0)
def F10_hold (z : Nat) (x1 : Int32) (x2 : Int32) (c_thrown : Int32) (c_told : (Nat → Int32)) (c_many : (Nat → Int32)) (c_eights : (Nat → Int32)) (c_gains : (Nat → Int32)) (c_fives : (Nat → Int32)) (c_shares : (Nat → Int32)) (c_allShares : Int32) : Option (Int32 × Int32 × (Nat → Int32) × Int32) :=
  (F10_holdBy z x1 (0 : Int32) x2 c_told c_many c_eights c_gains c_fives c_shares c_allShares).bind (fun v9 => some (v9.1, (0 : Int32), v9.2.1, v9.2.2))
theorem T10_hold {X : xX} {z : Nat} {x1 : Int32} {x2 : Int32} {c_thrown : Int32} {c_told : (Nat → Int32)} {c_many : (Nat → Int32)} {c_eights : (Nat → Int32)} {c_gains : (Nat → Int32)} {c_fives : (Nat → Int32)} {c_shares : (Nat → Int32)} {c_allShares : Int32} {c_read : (Nat → Int32)} {c_notes : (Nat → Int32)} {c_seen : (Nat → Int32)} {c_turns : (Nat → Int32)} {c_drawn : (Nat → Int32)} {c_state : Int32} {c_tape : (Nat → Int32)} {c_taped : Int32} {c_size : Int32} {c_from : Int32} {c_next : Int32} {c_token : Int32} {c_value : Int32} {c_fault : Int32} {c_number : Int32} {c_isLeft : (Nat → Int32)} {c_wentTimes : Int32} {c_goes : (Nat → Int32)} {c_isLeftLaid : Int32} {c_game : (Nat → Int32)} {c_rows : Int32} {c_columns : Int32} {c_isFound : Int32} {c_bestValue : Int64} {c_bestBelow : Int64} {c_bestShare : (Nat → Int64)} {c_share : (Nat → Int64)} {c_matrix : (Nat → Int64)} {c_system : (Nat → Int64)} {v : Int32 × Int32 × (Nat → Int32) × Int32} (hX : xIs (j10_hold) X ((some .int)) (some (.int v.1)) (hM v.2.1 c_told c_read c_many c_eights c_gains c_notes c_seen c_turns c_drawn c_state c_tape c_taped c_size c_from c_next c_token c_value c_fault c_number c_fives c_isLeft c_wentTimes c_goes c_isLeftLaid c_game c_rows c_columns c_isFound c_bestValue c_bestBelow c_bestShare c_share c_matrix c_system v.2.2.1 v.2.2.2)) (hf : F10_hold z x1 x2 c_thrown c_told c_many c_eights c_gains c_fives c_shares c_allShares = some v) : xV (j10_hold) X 0 0 (hM c_thrown c_told c_read c_many c_eights c_gains c_notes c_seen c_turns c_drawn c_state c_tape c_taped c_size c_from c_next c_token c_value c_fault c_number c_fives c_isLeft c_wentTimes c_goes c_isLeftLaid c_game c_rows c_columns c_isFound c_bestValue c_bestBelow c_bestShare c_share c_matrix c_system c_shares c_allShares) 0 [(0, .ref 0), (1, .int x1), (2, .int x2)] [] := by
  unfold F10_hold at hf
  refine xV_aload_n 1 rfl dX10_hold_0 rfl 0 rfl ?_
  refine xV_iconst 2 rfl dX10_hold_1 xk_i0 ?_
  refine xV_put (h' := (hM (0 : Int32) c_told c_read c_many c_eights c_gains c_notes c_seen c_turns c_drawn c_state c_tape c_taped c_size c_from c_next c_token c_value c_fault c_number c_fives c_isLeft c_wentTimes c_goes c_isLeftLaid c_game c_rows c_columns c_isFound c_bestValue c_bestBelow c_bestShare c_share c_matrix c_system c_shares c_allShares)) 5 rfl dX10_hold_2 f10_1 rfl nf10_0 (fun _ => rfl) (fun _ => rfl) (Nat.le_of_ble_eq_true rfl) rfl ?_
  refine xV_aload_n 6 rfl dX10_hold_5 rfl 0 rfl ?_
  refine xV_iload_n 7 rfl dX10_hold_6 rfl 1 rfl ?_
  refine xV_iconst 8 rfl dX10_hold_7 xk_i0 ?_
  refine xV_iload_n 9 rfl dX10_hold_8 rfl 2 rfl ?_
  obtain ⟨v9, hv9, hf⟩ := xb_s hf
  refine xV_same (rest := []) 12 rfl dX10_hold_9 rfl (C10_holdBy X.1.2.1 hv9) m10_holdBy v10_holdBy k10_359 rfl rfl rfl rfl rfl (Nat.le_of_ble_eq_true rfl) (Nat.le_of_ble_eq_true rfl) (Nat.le_of_ble_eq_true rfl) ⟨Nat.le_refl _, Nat.le_refl _⟩ ?_
  show xV (j10_hold) X 0 0 (hM (0 : Int32) c_told c_read c_many c_eights c_gains c_notes c_seen c_turns c_drawn c_state c_tape c_taped c_size c_from c_next c_token c_value c_fault c_number c_fives c_isLeft c_wentTimes c_goes c_isLeftLaid c_game c_rows c_columns c_isFound c_bestValue c_bestBelow c_bestShare c_share c_matrix c_system v9.2.1 v9.2.2) 12 [(0, .ref 0), (1, .int x1), (2, .int x2)] [.int v9.1]
  obtain rfl := Option.some.inj hf
  exact xV_iret hX dX10_hold_12 rfl (Nat.zero_le _) (Nat.zero_le _)
theorem C10_hold (l : Launch) {z : Nat} {x1 : Int32} {x2 : Int32} {c_thrown : Int32} {c_told : (Nat → Int32)} {c_many : (Nat → Int32)} {c_eights : (Nat → Int32)} {c_gains : (Nat → Int32)} {c_fives : (Nat → Int32)} {c_shares : (Nat → Int32)} {c_allShares : Int32} {c_read : (Nat → Int32)} {c_notes : (Nat → Int32)} {c_seen : (Nat → Int32)} {c_turns : (Nat → Int32)} {c_drawn : (Nat → Int32)} {c_state : Int32} {c_tape : (Nat → Int32)} {c_taped : Int32} {c_size : Int32} {c_from : Int32} {c_next : Int32} {c_token : Int32} {c_value : Int32} {c_fault : Int32} {c_number : Int32} {c_isLeft : (Nat → Int32)} {c_wentTimes : Int32} {c_goes : (Nat → Int32)} {c_isLeftLaid : Int32} {c_game : (Nat → Int32)} {c_rows : Int32} {c_columns : Int32} {c_isFound : Int32} {c_bestValue : Int64} {c_bestBelow : Int64} {c_bestShare : (Nat → Int64)} {c_share : (Nat → Int64)} {c_matrix : (Nat → Int64)} {c_system : (Nat → Int64)} {v : Int32 × Int32 × (Nat → Int32) × Int32} (hf : F10_hold z x1 x2 c_thrown c_told c_many c_eights c_gains c_fives c_shares c_allShares = some v) : xCt l yX10_hold ((some .int)) j10_hold [.ref 0, .int x1, .int x2] (hM c_thrown c_told c_read c_many c_eights c_gains c_notes c_seen c_turns c_drawn c_state c_tape c_taped c_size c_from c_next c_token c_value c_fault c_number c_fives c_isLeft c_wentTimes c_goes c_isLeftLaid c_game c_rows c_columns c_isFound c_bestValue c_bestBelow c_bestShare c_share c_matrix c_system c_shares c_allShares) (some (.int v.1)) (hM v.2.1 c_told c_read c_many c_eights c_gains c_notes c_seen c_turns c_drawn c_state c_tape c_taped c_size c_from c_next c_token c_value c_fault c_number c_fives c_isLeft c_wentTimes c_goes c_isLeftLaid c_game c_rows c_columns c_isFound c_bestValue c_bestBelow c_bestShare c_share c_matrix c_system v.2.2.1 v.2.2.2) := xCt_of (by decide) rfl (Nat.le_of_ble_eq_true rfl) (fun _ hX => T10_hold hX hf)
theorem m10_hold : xMd yX10_hold RX10 ((some .int)) j10_hold 2 := ⟨List.mem_of_getElem? (i := 1103) (by decide +kernel), List.mem_of_getElem? (i := 5) (by decide +kernel), rfl, by decide +kernel⟩
theorem v10_hold : xMv yX10_hold RX10 := ⟨List.mem_of_getElem? (i := 1101) (by decide +kernel), List.mem_of_getElem? (i := 1102) (by decide +kernel)⟩
theorem dX10_reply_0 : decode cX10_reply 0 = .ok (.aload_n 0, 1) := by decide +kernel
theorem dX10_reply_1 : decode cX10_reply 1 = .ok (.iconst 0, 1) := by decide +kernel
theorem dX10_reply_2 : decode cX10_reply 2 = .ok (.putfield 1, 3) := by decide +kernel
theorem dX10_reply_5 : decode cX10_reply 5 = .ok (.aload_n 0, 1) := by decide +kernel
theorem dX10_reply_6 : decode cX10_reply 6 = .ok (.iload_n 1, 1) := by decide +kernel
theorem dX10_reply_7 : decode cX10_reply 7 = .ok (.invokevirtual 349, 3) := by decide +kernel
theorem dX10_reply_10 : decode cX10_reply 10 = .ok (.ifCond .ne 5, 3) := by decide +kernel
theorem dX10_reply_13 : decode cX10_reply 13 = .ok (.iconst (-1), 1) := by decide +kernel
theorem dX10_reply_14 : decode cX10_reply 14 = .ok (.ireturn, 1) := by decide +kernel
theorem dX10_reply_15 : decode cX10_reply 15 = .ok (.aload_n 0, 1) := by decide +kernel
theorem dX10_reply_16 : decode cX10_reply 16 = .ok (.iload_n 1, 1) := by decide +kernel
theorem dX10_reply_17 : decode cX10_reply 17 = .ok (.iconst 0, 1) := by decide +kernel
theorem dX10_reply_18 : decode cX10_reply 18 = .ok (.invokevirtual 352, 3) := by decide +kernel
theorem dX10_reply_21 : decode cX10_reply 21 = .ok (.aload_n 0, 1) := by decide +kernel
theorem dX10_reply_22 : decode cX10_reply 22 = .ok (.iload_n 1, 1) := by decide +kernel
theorem dX10_reply_23 : decode cX10_reply 23 = .ok (.invokevirtual 356, 3) := by decide +kernel
theorem dX10_reply_26 : decode cX10_reply 26 = .ok (.ireturn, 1) := by decide +kernel
abbrev j10_reply : xJ := (cX10_reply, 2, RX10, 7, 0, 0)
def F10_reply (z : Nat) (x1 : Int32) (c_thrown : Int32) (c_told : (Nat → Int32)) (c_many : (Nat → Int32)) (c_eights : (Nat → Int32)) (c_gains : (Nat → Int32)) (c_fives : (Nat → Int32)) (c_shares : (Nat → Int32)) (c_allShares : Int32) : Option (Int32 × Int32 × (Nat → Int32) × Int32) :=
  (F10_hasPlan x1 c_told).bind (fun v7 => if v7 = 0 then (some ((-1 : Int32), (0 : Int32), c_shares, c_allShares)) else ((F10_laysShares z x1 (0 : Int32) c_told c_many c_eights c_fives c_shares c_allShares).bind (fun v18 => (F10_replyTo z x1 c_many c_gains v18.1).bind (fun v23 => some (v23, (0 : Int32), v18.1, v18.2)))))
theorem T10_reply {X : xX} {z : Nat} {x1 : Int32} {c_thrown : Int32} {c_told : (Nat → Int32)} {c_many : (Nat → Int32)} {c_eights : (Nat → Int32)} {c_gains : (Nat → Int32)} {c_fives : (Nat → Int32)} {c_shares : (Nat → Int32)} {c_allShares : Int32} {c_read : (Nat → Int32)} {c_notes : (Nat → Int32)} {c_seen : (Nat → Int32)} {c_turns : (Nat → Int32)} {c_drawn : (Nat → Int32)} {c_state : Int32} {c_tape : (Nat → Int32)} {c_taped : Int32} {c_size : Int32} {c_from : Int32} {c_next : Int32} {c_token : Int32} {c_value : Int32} {c_fault : Int32} {c_number : Int32} {c_isLeft : (Nat → Int32)} {c_wentTimes : Int32} {c_goes : (Nat → Int32)} {c_isLeftLaid : Int32} {c_game : (Nat → Int32)} {c_rows : Int32} {c_columns : Int32} {c_isFound : Int32} {c_bestValue : Int64} {c_bestBelow : Int64} {c_bestShare : (Nat → Int64)} {c_share : (Nat → Int64)} {c_matrix : (Nat → Int64)} {c_system : (Nat → Int64)} {v : Int32 × Int32 × (Nat → Int32) × Int32} (hX : xIs (j10_reply) X ((some .int)) (some (.int v.1)) (hM v.2.1 c_told c_read c_many c_eights c_gains c_notes c_seen c_turns c_drawn c_state c_tape c_taped c_size c_from c_next c_token c_value c_fault c_number c_fives c_isLeft c_wentTimes c_goes c_isLeftLaid c_game c_rows c_columns c_isFound c_bestValue c_bestBelow c_bestShare c_share c_matrix c_system v.2.2.1 v.2.2.2)) (hf : F10_reply z x1 c_thrown c_told c_many c_eights c_gains c_fives c_shares c_allShares = some v) : xV (j10_reply) X 0 0 (hM c_thrown c_told c_read c_many c_eights c_gains c_notes c_seen c_turns c_drawn c_state c_tape c_taped c_size c_from c_next c_token c_value c_fault c_number c_fives c_isLeft c_wentTimes c_goes c_isLeftLaid c_game c_rows c_columns c_isFound c_bestValue c_bestBelow c_bestShare c_share c_matrix c_system c_shares c_allShares) 0 [(0, .ref 0), (1, .int x1)] [] := by
  unfold F10_reply at hf
  refine xV_aload_n 1 rfl dX10_reply_0 rfl 0 rfl ?_
  refine xV_iconst 2 rfl dX10_reply_1 xk_i0 ?_
  refine xV_put (h' := (hM (0 : Int32) c_told c_read c_many c_eights c_gains c_notes c_seen c_turns c_drawn c_state c_tape c_taped c_size c_from c_next c_token c_value c_fault c_number c_fives c_isLeft c_wentTimes c_goes c_isLeftLaid c_game c_rows c_columns c_isFound c_bestValue c_bestBelow c_bestShare c_share c_matrix c_system c_shares c_allShares)) 5 rfl dX10_reply_2 f10_1 rfl nf10_0 (fun _ => rfl) (fun _ => rfl) (Nat.le_of_ble_eq_true rfl) rfl ?_
  refine xV_aload_n 6 rfl dX10_reply_5 rfl 0 rfl ?_
  refine xV_iload_n 7 rfl dX10_reply_6 rfl 1 rfl ?_
  obtain ⟨v7, hv7, hf⟩ := xb_s hf
  refine xV_same (rest := []) 10 rfl dX10_reply_7 rfl (C10_hasPlan X.1.2.1 hv7) m10_hasPlan v10_hasPlan k10_349 rfl rfl rfl rfl rfl (Nat.le_of_ble_eq_true rfl) (Nat.le_of_ble_eq_true rfl) (Nat.le_of_ble_eq_true rfl) ⟨Nat.le_refl _, Nat.le_refl _⟩ ?_
  show xV (j10_reply) X 0 0 (hM (0 : Int32) c_told c_read c_many c_eights c_gains c_notes c_seen c_turns c_drawn c_state c_tape c_taped c_size c_from c_next c_token c_value c_fault c_number c_fives c_isLeft c_wentTimes c_goes c_isLeftLaid c_game c_rows c_columns c_isFound c_bestValue c_bestBelow c_bestShare c_share c_matrix c_system c_shares c_allShares) 10 [(0, .ref 0), (1, .int x1)] [.int v7]
  refine xV_if_ne (tgt := 15) 13 rfl dX10_reply_10 (by decide) (fun h10 => ?_) (fun h10 => ?_)
  · have hf := xif_f hf h10
    refine xV_aload_n 16 rfl dX10_reply_15 rfl 0 rfl ?_
    refine xV_iload_n 17 rfl dX10_reply_16 rfl 1 rfl ?_
    refine xV_iconst 18 rfl dX10_reply_17 xk_i0 ?_
    obtain ⟨v18, hv18, hf⟩ := xb_s hf
    refine xV_same (rest := []) 21 rfl dX10_reply_18 rfl (C10_laysShares X.1.2.1 hv18) m10_laysShares v10_laysShares k10_352 rfl rfl rfl rfl rfl (Nat.le_of_ble_eq_true rfl) (Nat.le_of_ble_eq_true rfl) (Nat.le_of_ble_eq_true rfl) ⟨Nat.le_refl _, Nat.le_refl _⟩ ?_
    show xV (j10_reply) X 0 0 (hM (0 : Int32) c_told c_read c_many c_eights c_gains c_notes c_seen c_turns c_drawn c_state c_tape c_taped c_size c_from c_next c_token c_value c_fault c_number c_fives c_isLeft c_wentTimes c_goes c_isLeftLaid c_game c_rows c_columns c_isFound c_bestValue c_bestBelow c_bestShare c_share c_matrix c_system v18.1 v18.2) 21 [(0, .ref 0), (1, .int x1)] []
    refine xV_aload_n 22 rfl dX10_reply_21 rfl 0 rfl ?_
    refine xV_iload_n 23 rfl dX10_reply_22 rfl 1 rfl ?_
    obtain ⟨v23, hv23, hf⟩ := xb_s hf
    refine xV_same (rest := []) 26 rfl dX10_reply_23 rfl (C10_replyTo X.1.2.1 hv23) m10_replyTo v10_replyTo k10_356 rfl rfl rfl rfl rfl (Nat.le_of_ble_eq_true rfl) (Nat.le_of_ble_eq_true rfl) (Nat.le_of_ble_eq_true rfl) ⟨Nat.le_refl _, Nat.le_refl _⟩ ?_
    show xV (j10_reply) X 0 0 (hM (0 : Int32) c_told c_read c_many c_eights c_gains c_notes c_seen c_turns c_drawn c_state c_tape c_taped c_size c_from c_next c_token c_value c_fault c_number c_fives c_isLeft c_wentTimes c_goes c_isLeftLaid c_game c_rows c_columns c_isFound c_bestValue c_bestBelow c_bestShare c_share c_matrix c_system v18.1 v18.2) 26 [(0, .ref 0), (1, .int x1)] [.int v23]
    obtain rfl := Option.some.inj hf
    exact xV_iret hX dX10_reply_26 rfl (Nat.zero_le _) (Nat.zero_le _)
  · have hf := xif_t hf h10
    refine xV_iconst 14 rfl dX10_reply_13 xk_im1 ?_
    obtain rfl := Option.some.inj hf
    exact xV_iret hX dX10_reply_14 rfl (Nat.zero_le _) (Nat.zero_le _)
theorem C10_reply (l : Launch) {z : Nat} {x1 : Int32} {c_thrown : Int32} {c_told : (Nat → Int32)} {c_many : (Nat → Int32)} {c_eights : (Nat → Int32)} {c_gains : (Nat → Int32)} {c_fives : (Nat → Int32)} {c_shares : (Nat → Int32)} {c_allShares : Int32} {c_read : (Nat → Int32)} {c_notes : (Nat → Int32)} {c_seen : (Nat → Int32)} {c_turns : (Nat → Int32)} {c_drawn : (Nat → Int32)} {c_state : Int32} {c_tape : (Nat → Int32)} {c_taped : Int32} {c_size : Int32} {c_from : Int32} {c_next : Int32} {c_token : Int32} {c_value : Int32} {c_fault : Int32} {c_number : Int32} {c_isLeft : (Nat → Int32)} {c_wentTimes : Int32} {c_goes : (Nat → Int32)} {c_isLeftLaid : Int32} {c_game : (Nat → Int32)} {c_rows : Int32} {c_columns : Int32} {c_isFound : Int32} {c_bestValue : Int64} {c_bestBelow : Int64} {c_bestShare : (Nat → Int64)} {c_share : (Nat → Int64)} {c_matrix : (Nat → Int64)} {c_system : (Nat → Int64)} {v : Int32 × Int32 × (Nat → Int32) × Int32} (hf : F10_reply z x1 c_thrown c_told c_many c_eights c_gains c_fives c_shares c_allShares = some v) : xCt l yX10_reply ((some .int)) j10_reply [.ref 0, .int x1] (hM c_thrown c_told c_read c_many c_eights c_gains c_notes c_seen c_turns c_drawn c_state c_tape c_taped c_size c_from c_next c_token c_value c_fault c_number c_fives c_isLeft c_wentTimes c_goes c_isLeftLaid c_game c_rows c_columns c_isFound c_bestValue c_bestBelow c_bestShare c_share c_matrix c_system c_shares c_allShares) (some (.int v.1)) (hM v.2.1 c_told c_read c_many c_eights c_gains c_notes c_seen c_turns c_drawn c_state c_tape c_taped c_size c_from c_next c_token c_value c_fault c_number c_fives c_isLeft c_wentTimes c_goes c_isLeftLaid c_game c_rows c_columns c_isFound c_bestValue c_bestBelow c_bestShare c_share c_matrix c_system v.2.2.1 v.2.2.2) := xCt_of (by decide) rfl (Nat.le_of_ble_eq_true rfl) (fun _ hX => T10_reply hX hf)
theorem m10_reply : xMd yX10_reply RX10 ((some .int)) j10_reply 1 := ⟨List.mem_of_getElem? (i := 1136) (by decide +kernel), List.mem_of_getElem? (i := 5) (by decide +kernel), rfl, by decide +kernel⟩
theorem v10_reply : xMv yX10_reply RX10 := ⟨List.mem_of_getElem? (i := 1134) (by decide +kernel), List.mem_of_getElem? (i := 1135) (by decide +kernel)⟩
theorem dX10_meet_0 : decode cX10_meet 0 = .ok (.aload_n 0, 1) := by decide +kernel
theorem dX10_meet_1 : decode cX10_meet 1 = .ok (.iconst 0, 1) := by decide +kernel
theorem dX10_meet_2 : decode cX10_meet 2 = .ok (.putfield 1, 3) := by decide +kernel
theorem dX10_meet_5 : decode cX10_meet 5 = .ok (.aload_n 0, 1) := by decide +kernel
theorem dX10_meet_6 : decode cX10_meet 6 = .ok (.iconst 0, 1) := by decide +kernel
theorem dX10_meet_7 : decode cX10_meet 7 = .ok (.invokevirtual 328, 3) := by decide +kernel
theorem dX10_meet_10 : decode cX10_meet 10 = .ok (.ifCond .eq 11, 3) := by decide +kernel
theorem dX10_meet_13 : decode cX10_meet 13 = .ok (.aload_n 0, 1) := by decide +kernel
theorem dX10_meet_14 : decode cX10_meet 14 = .ok (.iconst 1, 1) := by decide +kernel
theorem dX10_meet_15 : decode cX10_meet 15 = .ok (.invokevirtual 328, 3) := by decide +kernel
theorem dX10_meet_18 : decode cX10_meet 18 = .ok (.ifCond .ne 5, 3) := by decide +kernel
theorem dX10_meet_21 : decode cX10_meet 21 = .ok (.iconst (-1), 1) := by decide +kernel
theorem dX10_meet_22 : decode cX10_meet 22 = .ok (.ireturn, 1) := by decide +kernel
theorem dX10_meet_23 : decode cX10_meet 23 = .ok (.aload_n 0, 1) := by decide +kernel
theorem dX10_meet_24 : decode cX10_meet 24 = .ok (.iconst 0, 1) := by decide +kernel
theorem dX10_meet_25 : decode cX10_meet 25 = .ok (.iconst 0, 1) := by decide +kernel
theorem dX10_meet_26 : decode cX10_meet 26 = .ok (.iconst 0, 1) := by decide +kernel
theorem dX10_meet_27 : decode cX10_meet 27 = .ok (.invokevirtual 359, 3) := by decide +kernel
theorem dX10_meet_30 : decode cX10_meet 30 = .ok (.aload_n 0, 1) := by decide +kernel
theorem dX10_meet_31 : decode cX10_meet 31 = .ok (.iconst 1, 1) := by decide +kernel
theorem dX10_meet_32 : decode cX10_meet 32 = .ok (.iconst 0, 1) := by decide +kernel
theorem dX10_meet_33 : decode cX10_meet 33 = .ok (.iconst 0, 1) := by decide +kernel
theorem dX10_meet_34 : decode cX10_meet 34 = .ok (.invokevirtual 359, 3) := by decide +kernel
theorem dX10_meet_37 : decode cX10_meet 37 = .ok (.ineg, 1) := by decide +kernel
theorem dX10_meet_38 : decode cX10_meet 38 = .ok (.if_icmp .ne 24, 3) := by decide +kernel
theorem dX10_meet_41 : decode cX10_meet 41 = .ok (.aload_n 0, 1) := by decide +kernel
theorem dX10_meet_42 : decode cX10_meet 42 = .ok (.iconst 0, 1) := by decide +kernel
theorem dX10_meet_43 : decode cX10_meet 43 = .ok (.iconst 0, 1) := by decide +kernel
theorem dX10_meet_44 : decode cX10_meet 44 = .ok (.iconst 1, 1) := by decide +kernel
theorem dX10_meet_45 : decode cX10_meet 45 = .ok (.invokevirtual 359, 3) := by decide +kernel
theorem dX10_meet_48 : decode cX10_meet 48 = .ok (.aload_n 0, 1) := by decide +kernel
theorem dX10_meet_49 : decode cX10_meet 49 = .ok (.iconst 1, 1) := by decide +kernel
theorem dX10_meet_50 : decode cX10_meet 50 = .ok (.iconst 0, 1) := by decide +kernel
theorem dX10_meet_51 : decode cX10_meet 51 = .ok (.iconst 1, 1) := by decide +kernel
theorem dX10_meet_52 : decode cX10_meet 52 = .ok (.invokevirtual 359, 3) := by decide +kernel
theorem dX10_meet_55 : decode cX10_meet 55 = .ok (.if_icmp .ne 7, 3) := by decide +kernel
theorem dX10_meet_58 : decode cX10_meet 58 = .ok (.iconst 1, 1) := by decide +kernel
theorem dX10_meet_59 : decode cX10_meet 59 = .ok (.goto 4, 3) := by decide +kernel
theorem dX10_meet_62 : decode cX10_meet 62 = .ok (.iconst 0, 1) := by decide +kernel
theorem dX10_meet_63 : decode cX10_meet 63 = .ok (.ireturn, 1) := by decide +kernel
abbrev j10_meet : xJ := (cX10_meet, 1, RX10, 8, 0, 0)
def F10_meet (z : Nat) (c_thrown : Int32) (c_told : (Nat → Int32)) (c_many : (Nat → Int32)) (c_eights : (Nat → Int32)) (c_gains : (Nat → Int32)) (c_fives : (Nat → Int32)) (c_shares : (Nat → Int32)) (c_allShares : Int32) : Option (Int32 × Int32 × (Nat → Int32) × Int32) :=
  (F10_planned (0 : Int32) c_told).bind (fun v7 => if v7 = 0 then (some ((-1 : Int32), (0 : Int32), c_shares, c_allShares)) else ((F10_planned (1 : Int32) c_told).bind (fun v15 => if v15 = 0 then (some ((-1 : Int32), (0 : Int32), c_shares, c_allShares)) else ((F10_holdBy z (0 : Int32) (0 : Int32) (0 : Int32) c_told c_many c_eights c_gains c_fives c_shares c_allShares).bind (fun v27 => (F10_holdBy z (1 : Int32) (0 : Int32) (0 : Int32) c_told c_many c_eights c_gains c_fives v27.2.1 v27.2.2).bind (fun v34 => if v27.1 = (-v34.1) then ((F10_holdBy z (0 : Int32) (0 : Int32) (1 : Int32) c_told c_many c_eights c_gains c_fives v34.2.1 v34.2.2).bind (fun v45 => (F10_holdBy z (1 : Int32) (0 : Int32) (1 : Int32) c_told c_many c_eights c_gains c_fives v45.2.1 v45.2.2).bind (fun v52 => if v45.1 = v52.1 then (some ((1 : Int32), (0 : Int32), v52.2.1, v52.2.2)) else (some ((0 : Int32), (0 : Int32), v52.2.1, v52.2.2))))) else (some ((0 : Int32), (0 : Int32), v34.2.1, v34.2.2))))))))
theorem T10_meet {X : xX} {z : Nat} {c_thrown : Int32} {c_told : (Nat → Int32)} {c_many : (Nat → Int32)} {c_eights : (Nat → Int32)} {c_gains : (Nat → Int32)} {c_fives : (Nat → Int32)} {c_shares : (Nat → Int32)} {c_allShares : Int32} {c_read : (Nat → Int32)} {c_notes : (Nat → Int32)} {c_seen : (Nat → Int32)} {c_turns : (Nat → Int32)} {c_drawn : (Nat → Int32)} {c_state : Int32} {c_tape : (Nat → Int32)} {c_taped : Int32} {c_size : Int32} {c_from : Int32} {c_next : Int32} {c_token : Int32} {c_value : Int32} {c_fault : Int32} {c_number : Int32} {c_isLeft : (Nat → Int32)} {c_wentTimes : Int32} {c_goes : (Nat → Int32)} {c_isLeftLaid : Int32} {c_game : (Nat → Int32)} {c_rows : Int32} {c_columns : Int32} {c_isFound : Int32} {c_bestValue : Int64} {c_bestBelow : Int64} {c_bestShare : (Nat → Int64)} {c_share : (Nat → Int64)} {c_matrix : (Nat → Int64)} {c_system : (Nat → Int64)} {v : Int32 × Int32 × (Nat → Int32) × Int32} (hX : xIs (j10_meet) X ((some .int)) (some (.int v.1)) (hM v.2.1 c_told c_read c_many c_eights c_gains c_notes c_seen c_turns c_drawn c_state c_tape c_taped c_size c_from c_next c_token c_value c_fault c_number c_fives c_isLeft c_wentTimes c_goes c_isLeftLaid c_game c_rows c_columns c_isFound c_bestValue c_bestBelow c_bestShare c_share c_matrix c_system v.2.2.1 v.2.2.2)) (hf : F10_meet z c_thrown c_told c_many c_eights c_gains c_fives c_shares c_allShares = some v) : xV (j10_meet) X 0 0 (hM c_thrown c_told c_read c_many c_eights c_gains c_notes c_seen c_turns c_drawn c_state c_tape c_taped c_size c_from c_next c_token c_value c_fault c_number c_fives c_isLeft c_wentTimes c_goes c_isLeftLaid c_game c_rows c_columns c_isFound c_bestValue c_bestBelow c_bestShare c_share c_matrix c_system c_shares c_allShares) 0 [(0, .ref 0)] [] := by
  unfold F10_meet at hf
  refine xV_aload_n 1 rfl dX10_meet_0 rfl 0 rfl ?_
  refine xV_iconst 2 rfl dX10_meet_1 xk_i0 ?_
  refine xV_put (h' := (hM (0 : Int32) c_told c_read c_many c_eights c_gains c_notes c_seen c_turns c_drawn c_state c_tape c_taped c_size c_from c_next c_token c_value c_fault c_number c_fives c_isLeft c_wentTimes c_goes c_isLeftLaid c_game c_rows c_columns c_isFound c_bestValue c_bestBelow c_bestShare c_share c_matrix c_system c_shares c_allShares)) 5 rfl dX10_meet_2 f10_1 rfl nf10_0 (fun _ => rfl) (fun _ => rfl) (Nat.le_of_ble_eq_true rfl) rfl ?_
  refine xV_aload_n 6 rfl dX10_meet_5 rfl 0 rfl ?_
  refine xV_iconst 7 rfl dX10_meet_6 xk_i0 ?_
  obtain ⟨v7, hv7, hf⟩ := xb_s hf
  refine xV_same (rest := []) 10 rfl dX10_meet_7 rfl (C10_planned X.1.2.1 hv7) m10_planned v10_planned k10_328 rfl rfl rfl rfl rfl (Nat.le_of_ble_eq_true rfl) (Nat.le_of_ble_eq_true rfl) (Nat.le_of_ble_eq_true rfl) ⟨Nat.le_refl _, Nat.le_refl _⟩ ?_
  show xV (j10_meet) X 0 0 (hM (0 : Int32) c_told c_read c_many c_eights c_gains c_notes c_seen c_turns c_drawn c_state c_tape c_taped c_size c_from c_next c_token c_value c_fault c_number c_fives c_isLeft c_wentTimes c_goes c_isLeftLaid c_game c_rows c_columns c_isFound c_bestValue c_bestBelow c_bestShare c_share c_matrix c_system c_shares c_allShares) 10 [(0, .ref 0)] [.int v7]
  refine xV_if_eq (tgt := 21) 13 rfl dX10_meet_10 (by decide) (fun h10 => ?_) (fun h10 => ?_)
  · have hf := xif_t hf h10
    refine xV_iconst 22 rfl dX10_meet_21 xk_im1 ?_
    obtain rfl := Option.some.inj hf
    exact xV_iret hX dX10_meet_22 rfl (Nat.zero_le _) (Nat.zero_le _)
  · have hf := xif_f hf h10
    refine xV_aload_n 14 rfl dX10_meet_13 rfl 0 rfl ?_
    refine xV_iconst 15 rfl dX10_meet_14 xk_i1 ?_
    obtain ⟨v15, hv15, hf⟩ := xb_s hf
    refine xV_same (rest := []) 18 rfl dX10_meet_15 rfl (C10_planned X.1.2.1 hv15) m10_planned v10_planned k10_328 rfl rfl rfl rfl rfl (Nat.le_of_ble_eq_true rfl) (Nat.le_of_ble_eq_true rfl) (Nat.le_of_ble_eq_true rfl) ⟨Nat.le_refl _, Nat.le_refl _⟩ ?_
    show xV (j10_meet) X 0 0 (hM (0 : Int32) c_told c_read c_many c_eights c_gains c_notes c_seen c_turns c_drawn c_state c_tape c_taped c_size c_from c_next c_token c_value c_fault c_number c_fives c_isLeft c_wentTimes c_goes c_isLeftLaid c_game c_rows c_columns c_isFound c_bestValue c_bestBelow c_bestShare c_share c_matrix c_system c_shares c_allShares) 18 [(0, .ref 0)] [.int v15]
    refine xV_if_ne (tgt := 23) 21 rfl dX10_meet_18 (by decide) (fun h18 => ?_) (fun h18 => ?_)
    · have hf := xif_f hf h18
      refine xV_aload_n 24 rfl dX10_meet_23 rfl 0 rfl ?_
      refine xV_iconst 25 rfl dX10_meet_24 xk_i0 ?_
      refine xV_iconst 26 rfl dX10_meet_25 xk_i0 ?_
      refine xV_iconst 27 rfl dX10_meet_26 xk_i0 ?_
      obtain ⟨v27, hv27, hf⟩ := xb_s hf
      refine xV_same (rest := []) 30 rfl dX10_meet_27 rfl (C10_holdBy X.1.2.1 hv27) m10_holdBy v10_holdBy k10_359 rfl rfl rfl rfl rfl (Nat.le_of_ble_eq_true rfl) (Nat.le_of_ble_eq_true rfl) (Nat.le_of_ble_eq_true rfl) ⟨Nat.le_refl _, Nat.le_refl _⟩ ?_
      show xV (j10_meet) X 0 0 (hM (0 : Int32) c_told c_read c_many c_eights c_gains c_notes c_seen c_turns c_drawn c_state c_tape c_taped c_size c_from c_next c_token c_value c_fault c_number c_fives c_isLeft c_wentTimes c_goes c_isLeftLaid c_game c_rows c_columns c_isFound c_bestValue c_bestBelow c_bestShare c_share c_matrix c_system v27.2.1 v27.2.2) 30 [(0, .ref 0)] [.int v27.1]
      refine xV_aload_n 31 rfl dX10_meet_30 rfl 0 rfl ?_
      refine xV_iconst 32 rfl dX10_meet_31 xk_i1 ?_
      refine xV_iconst 33 rfl dX10_meet_32 xk_i0 ?_
      refine xV_iconst 34 rfl dX10_meet_33 xk_i0 ?_
      obtain ⟨v34, hv34, hf⟩ := xb_s hf
      refine xV_same (rest := [.int v27.1]) 37 rfl dX10_meet_34 rfl (C10_holdBy X.1.2.1 hv34) m10_holdBy v10_holdBy k10_359 rfl rfl rfl rfl rfl (Nat.le_of_ble_eq_true rfl) (Nat.le_of_ble_eq_true rfl) (Nat.le_of_ble_eq_true rfl) ⟨Nat.le_refl _, Nat.le_refl _⟩ ?_
      show xV (j10_meet) X 0 0 (hM (0 : Int32) c_told c_read c_many c_eights c_gains c_notes c_seen c_turns c_drawn c_state c_tape c_taped c_size c_from c_next c_token c_value c_fault c_number c_fives c_isLeft c_wentTimes c_goes c_isLeftLaid c_game c_rows c_columns c_isFound c_bestValue c_bestBelow c_bestShare c_share c_matrix c_system v34.2.1 v34.2.2) 37 [(0, .ref 0)] [.int v34.1, .int v27.1]
      refine xV_ineg 38 rfl dX10_meet_37 ?_
      refine xV_icmp_ne (tgt := 62) 41 rfl dX10_meet_38 (by decide) (fun h38 => ?_) (fun h38 => ?_)
      · have hf := xif_f hf h38
        refine xV_iconst 63 rfl dX10_meet_62 xk_i0 ?_
        obtain rfl := Option.some.inj hf
        exact xV_iret hX dX10_meet_63 rfl (Nat.zero_le _) (Nat.zero_le _)
      · have hf := xif_t hf h38
        refine xV_aload_n 42 rfl dX10_meet_41 rfl 0 rfl ?_
        refine xV_iconst 43 rfl dX10_meet_42 xk_i0 ?_
        refine xV_iconst 44 rfl dX10_meet_43 xk_i0 ?_
        refine xV_iconst 45 rfl dX10_meet_44 xk_i1 ?_
        obtain ⟨v45, hv45, hf⟩ := xb_s hf
        refine xV_same (rest := []) 48 rfl dX10_meet_45 rfl (C10_holdBy X.1.2.1 hv45) m10_holdBy v10_holdBy k10_359 rfl rfl rfl rfl rfl (Nat.le_of_ble_eq_true rfl) (Nat.le_of_ble_eq_true rfl) (Nat.le_of_ble_eq_true rfl) ⟨Nat.le_refl _, Nat.le_refl _⟩ ?_
        show xV (j10_meet) X 0 0 (hM (0 : Int32) c_told c_read c_many c_eights c_gains c_notes c_seen c_turns c_drawn c_state c_tape c_taped c_size c_from c_next c_token c_value c_fault c_number c_fives c_isLeft c_wentTimes c_goes c_isLeftLaid c_game c_rows c_columns c_isFound c_bestValue c_bestBelow c_bestShare c_share c_matrix c_system v45.2.1 v45.2.2) 48 [(0, .ref 0)] [.int v45.1]
        refine xV_aload_n 49 rfl dX10_meet_48 rfl 0 rfl ?_
        refine xV_iconst 50 rfl dX10_meet_49 xk_i1 ?_
        refine xV_iconst 51 rfl dX10_meet_50 xk_i0 ?_
        refine xV_iconst 52 rfl dX10_meet_51 xk_i1 ?_
        obtain ⟨v52, hv52, hf⟩ := xb_s hf
        refine xV_same (rest := [.int v45.1]) 55 rfl dX10_meet_52 rfl (C10_holdBy X.1.2.1 hv52) m10_holdBy v10_holdBy k10_359 rfl rfl rfl rfl rfl (Nat.le_of_ble_eq_true rfl) (Nat.le_of_ble_eq_true rfl) (Nat.le_of_ble_eq_true rfl) ⟨Nat.le_refl _, Nat.le_refl _⟩ ?_
        show xV (j10_meet) X 0 0 (hM (0 : Int32) c_told c_read c_many c_eights c_gains c_notes c_seen c_turns c_drawn c_state c_tape c_taped c_size c_from c_next c_token c_value c_fault c_number c_fives c_isLeft c_wentTimes c_goes c_isLeftLaid c_game c_rows c_columns c_isFound c_bestValue c_bestBelow c_bestShare c_share c_matrix c_system v52.2.1 v52.2.2) 55 [(0, .ref 0)] [.int v52.1, .int v45.1]
        refine xV_icmp_ne (tgt := 62) 58 rfl dX10_meet_55 (by decide) (fun h55 => ?_) (fun h55 => ?_)
        · have hf := xif_f hf h55
          refine xV_iconst 63 rfl dX10_meet_62 xk_i0 ?_
          obtain rfl := Option.some.inj hf
          exact xV_iret hX dX10_meet_63 rfl (Nat.zero_le _) (Nat.zero_le _)
        · have hf := xif_t hf h55
          refine xV_iconst 59 rfl dX10_meet_58 xk_i1 ?_
          refine xV_goto (tgt := 63) dX10_meet_59 (by decide) ?_
          obtain rfl := Option.some.inj hf
          exact xV_iret hX dX10_meet_63 rfl (Nat.zero_le _) (Nat.zero_le _)
    · have hf := xif_t hf h18
      refine xV_iconst 22 rfl dX10_meet_21 xk_im1 ?_
      obtain rfl := Option.some.inj hf
      exact xV_iret hX dX10_meet_22 rfl (Nat.zero_le _) (Nat.zero_le _)
theorem C10_meet (l : Launch) {z : Nat} {c_thrown : Int32} {c_told : (Nat → Int32)} {c_many : (Nat → Int32)} {c_eights : (Nat → Int32)} {c_gains : (Nat → Int32)} {c_fives : (Nat → Int32)} {c_shares : (Nat → Int32)} {c_allShares : Int32} {c_read : (Nat → Int32)} {c_notes : (Nat → Int32)} {c_seen : (Nat → Int32)} {c_turns : (Nat → Int32)} {c_drawn : (Nat → Int32)} {c_state : Int32} {c_tape : (Nat → Int32)} {c_taped : Int32} {c_size : Int32} {c_from : Int32} {c_next : Int32} {c_token : Int32} {c_value : Int32} {c_fault : Int32} {c_number : Int32} {c_isLeft : (Nat → Int32)} {c_wentTimes : Int32} {c_goes : (Nat → Int32)} {c_isLeftLaid : Int32} {c_game : (Nat → Int32)} {c_rows : Int32} {c_columns : Int32} {c_isFound : Int32} {c_bestValue : Int64} {c_bestBelow : Int64} {c_bestShare : (Nat → Int64)} {c_share : (Nat → Int64)} {c_matrix : (Nat → Int64)} {c_system : (Nat → Int64)} {v : Int32 × Int32 × (Nat → Int32) × Int32} (hf : F10_meet z c_thrown c_told c_many c_eights c_gains c_fives c_shares c_allShares = some v) : xCt l yX10_meet ((some .int)) j10_meet [.ref 0] (hM c_thrown c_told c_read c_many c_eights c_gains c_notes c_seen c_turns c_drawn c_state c_tape c_taped c_size c_from c_next c_token c_value c_fault c_number c_fives c_isLeft c_wentTimes c_goes c_isLeftLaid c_game c_rows c_columns c_isFound c_bestValue c_bestBelow c_bestShare c_share c_matrix c_system c_shares c_allShares) (some (.int v.1)) (hM v.2.1 c_told c_read c_many c_eights c_gains c_notes c_seen c_turns c_drawn c_state c_tape c_taped c_size c_from c_next c_token c_value c_fault c_number c_fives c_isLeft c_wentTimes c_goes c_isLeftLaid c_game c_rows c_columns c_isFound c_bestValue c_bestBelow c_bestShare c_share c_matrix c_system v.2.2.1 v.2.2.2) := xCt_of (by decide) rfl (Nat.le_of_ble_eq_true rfl) (fun _ hX => T10_meet hX hf)
theorem m10_meet : xMd yX10_meet RX10 ((some .int)) j10_meet 0 := ⟨List.mem_of_getElem? (i := 1145) (by decide +kernel), List.mem_of_getElem? (i := 5) (by decide +kernel), rfl, by decide +kernel⟩
theorem v10_meet : xMv yX10_meet RX10 := ⟨List.mem_of_getElem? (i := 1143) (by decide +kernel), List.mem_of_getElem? (i := 1144) (by decide +kernel)⟩
theorem dX10_evenHold_0 : decode cX10_evenHold 0 = .ok (.aload_n 0, 1) := by decide +kernel
theorem dX10_evenHold_1 : decode cX10_evenHold 1 = .ok (.iconst 0, 1) := by decide +kernel
theorem dX10_evenHold_2 : decode cX10_evenHold 2 = .ok (.putfield 1, 3) := by decide +kernel
theorem dX10_evenHold_5 : decode cX10_evenHold 5 = .ok (.aload_n 0, 1) := by decide +kernel
theorem dX10_evenHold_6 : decode cX10_evenHold 6 = .ok (.iload_n 1, 1) := by decide +kernel
theorem dX10_evenHold_7 : decode cX10_evenHold 7 = .ok (.iconst 1, 1) := by decide +kernel
theorem dX10_evenHold_8 : decode cX10_evenHold 8 = .ok (.iload_n 2, 1) := by decide +kernel
theorem dX10_evenHold_9 : decode cX10_evenHold 9 = .ok (.invokevirtual 359, 3) := by decide +kernel
theorem dX10_evenHold_12 : decode cX10_evenHold 12 = .ok (.ireturn, 1) := by decide +kernel
abbrev j10_evenHold : xJ := (cX10_evenHold, 3, RX10, 8, 0, 0)
def F10_evenHold (z : Nat) (x1 : Int32) (x2 : Int32) (c_thrown : Int32) (c_told : (Nat → Int32)) (c_many : (Nat → Int32)) (c_eights : (Nat → Int32)) (c_gains : (Nat → Int32)) (c_fives : (Nat → Int32)) (c_shares : (Nat → Int32)) (c_allShares : Int32) : Option (Int32 × Int32 × (Nat → Int32) × Int32) :=
  (F10_holdBy z x1 (1 : Int32) x2 c_told c_many c_eights c_gains c_fives c_shares c_allShares).bind (fun v9 => some (v9.1, (0 : Int32), v9.2.1, v9.2.2))
theorem T10_evenHold {X : xX} {z : Nat} {x1 : Int32} {x2 : Int32} {c_thrown : Int32} {c_told : (Nat → Int32)} {c_many : (Nat → Int32)} {c_eights : (Nat → Int32)} {c_gains : (Nat → Int32)} {c_fives : (Nat → Int32)} {c_shares : (Nat → Int32)} {c_allShares : Int32} {c_read : (Nat → Int32)} {c_notes : (Nat → Int32)} {c_seen : (Nat → Int32)} {c_turns : (Nat → Int32)} {c_drawn : (Nat → Int32)} {c_state : Int32} {c_tape : (Nat → Int32)} {c_taped : Int32} {c_size : Int32} {c_from : Int32} {c_next : Int32} {c_token : Int32} {c_value : Int32} {c_fault : Int32} {c_number : Int32} {c_isLeft : (Nat → Int32)} {c_wentTimes : Int32} {c_goes : (Nat → Int32)} {c_isLeftLaid : Int32} {c_game : (Nat → Int32)} {c_rows : Int32} {c_columns : Int32} {c_isFound : Int32} {c_bestValue : Int64} {c_bestBelow : Int64} {c_bestShare : (Nat → Int64)} {c_share : (Nat → Int64)} {c_matrix : (Nat → Int64)} {c_system : (Nat → Int64)} {v : Int32 × Int32 × (Nat → Int32) × Int32} (hX : xIs (j10_evenHold) X ((some .int)) (some (.int v.1)) (hM v.2.1 c_told c_read c_many c_eights c_gains c_notes c_seen c_turns c_drawn c_state c_tape c_taped c_size c_from c_next c_token c_value c_fault c_number c_fives c_isLeft c_wentTimes c_goes c_isLeftLaid c_game c_rows c_columns c_isFound c_bestValue c_bestBelow c_bestShare c_share c_matrix c_system v.2.2.1 v.2.2.2)) (hf : F10_evenHold z x1 x2 c_thrown c_told c_many c_eights c_gains c_fives c_shares c_allShares = some v) : xV (j10_evenHold) X 0 0 (hM c_thrown c_told c_read c_many c_eights c_gains c_notes c_seen c_turns c_drawn c_state c_tape c_taped c_size c_from c_next c_token c_value c_fault c_number c_fives c_isLeft c_wentTimes c_goes c_isLeftLaid c_game c_rows c_columns c_isFound c_bestValue c_bestBelow c_bestShare c_share c_matrix c_system c_shares c_allShares) 0 [(0, .ref 0), (1, .int x1), (2, .int x2)] [] := by
  unfold F10_evenHold at hf
  refine xV_aload_n 1 rfl dX10_evenHold_0 rfl 0 rfl ?_
  refine xV_iconst 2 rfl dX10_evenHold_1 xk_i0 ?_
  refine xV_put (h' := (hM (0 : Int32) c_told c_read c_many c_eights c_gains c_notes c_seen c_turns c_drawn c_state c_tape c_taped c_size c_from c_next c_token c_value c_fault c_number c_fives c_isLeft c_wentTimes c_goes c_isLeftLaid c_game c_rows c_columns c_isFound c_bestValue c_bestBelow c_bestShare c_share c_matrix c_system c_shares c_allShares)) 5 rfl dX10_evenHold_2 f10_1 rfl nf10_0 (fun _ => rfl) (fun _ => rfl) (Nat.le_of_ble_eq_true rfl) rfl ?_
  refine xV_aload_n 6 rfl dX10_evenHold_5 rfl 0 rfl ?_
  refine xV_iload_n 7 rfl dX10_evenHold_6 rfl 1 rfl ?_
  refine xV_iconst 8 rfl dX10_evenHold_7 xk_i1 ?_
  refine xV_iload_n 9 rfl dX10_evenHold_8 rfl 2 rfl ?_
  obtain ⟨v9, hv9, hf⟩ := xb_s hf
  refine xV_same (rest := []) 12 rfl dX10_evenHold_9 rfl (C10_holdBy X.1.2.1 hv9) m10_holdBy v10_holdBy k10_359 rfl rfl rfl rfl rfl (Nat.le_of_ble_eq_true rfl) (Nat.le_of_ble_eq_true rfl) (Nat.le_of_ble_eq_true rfl) ⟨Nat.le_refl _, Nat.le_refl _⟩ ?_
  show xV (j10_evenHold) X 0 0 (hM (0 : Int32) c_told c_read c_many c_eights c_gains c_notes c_seen c_turns c_drawn c_state c_tape c_taped c_size c_from c_next c_token c_value c_fault c_number c_fives c_isLeft c_wentTimes c_goes c_isLeftLaid c_game c_rows c_columns c_isFound c_bestValue c_bestBelow c_bestShare c_share c_matrix c_system v9.2.1 v9.2.2) 12 [(0, .ref 0), (1, .int x1), (2, .int x2)] [.int v9.1]
  obtain rfl := Option.some.inj hf
  exact xV_iret hX dX10_evenHold_12 rfl (Nat.zero_le _) (Nat.zero_le _)
theorem C10_evenHold (l : Launch) {z : Nat} {x1 : Int32} {x2 : Int32} {c_thrown : Int32} {c_told : (Nat → Int32)} {c_many : (Nat → Int32)} {c_eights : (Nat → Int32)} {c_gains : (Nat → Int32)} {c_fives : (Nat → Int32)} {c_shares : (Nat → Int32)} {c_allShares : Int32} {c_read : (Nat → Int32)} {c_notes : (Nat → Int32)} {c_seen : (Nat → Int32)} {c_turns : (Nat → Int32)} {c_drawn : (Nat → Int32)} {c_state : Int32} {c_tape : (Nat → Int32)} {c_taped : Int32} {c_size : Int32} {c_from : Int32} {c_next : Int32} {c_token : Int32} {c_value : Int32} {c_fault : Int32} {c_number : Int32} {c_isLeft : (Nat → Int32)} {c_wentTimes : Int32} {c_goes : (Nat → Int32)} {c_isLeftLaid : Int32} {c_game : (Nat → Int32)} {c_rows : Int32} {c_columns : Int32} {c_isFound : Int32} {c_bestValue : Int64} {c_bestBelow : Int64} {c_bestShare : (Nat → Int64)} {c_share : (Nat → Int64)} {c_matrix : (Nat → Int64)} {c_system : (Nat → Int64)} {v : Int32 × Int32 × (Nat → Int32) × Int32} (hf : F10_evenHold z x1 x2 c_thrown c_told c_many c_eights c_gains c_fives c_shares c_allShares = some v) : xCt l yX10_evenHold ((some .int)) j10_evenHold [.ref 0, .int x1, .int x2] (hM c_thrown c_told c_read c_many c_eights c_gains c_notes c_seen c_turns c_drawn c_state c_tape c_taped c_size c_from c_next c_token c_value c_fault c_number c_fives c_isLeft c_wentTimes c_goes c_isLeftLaid c_game c_rows c_columns c_isFound c_bestValue c_bestBelow c_bestShare c_share c_matrix c_system c_shares c_allShares) (some (.int v.1)) (hM v.2.1 c_told c_read c_many c_eights c_gains c_notes c_seen c_turns c_drawn c_state c_tape c_taped c_size c_from c_next c_token c_value c_fault c_number c_fives c_isLeft c_wentTimes c_goes c_isLeftLaid c_game c_rows c_columns c_isFound c_bestValue c_bestBelow c_bestShare c_share c_matrix c_system v.2.2.1 v.2.2.2) := xCt_of (by decide) rfl (Nat.le_of_ble_eq_true rfl) (fun _ hX => T10_evenHold hX hf)
theorem m10_evenHold : xMd yX10_evenHold RX10 ((some .int)) j10_evenHold 2 := ⟨List.mem_of_getElem? (i := 1165) (by decide +kernel), List.mem_of_getElem? (i := 5) (by decide +kernel), rfl, by decide +kernel⟩
theorem v10_evenHold : xMv yX10_evenHold RX10 := ⟨List.mem_of_getElem? (i := 1163) (by decide +kernel), List.mem_of_getElem? (i := 1164) (by decide +kernel)⟩
theorem dX10_evenShare_0 : decode cX10_evenShare 0 = .ok (.aload_n 0, 1) := by decide +kernel
theorem dX10_evenShare_1 : decode cX10_evenShare 1 = .ok (.iconst 0, 1) := by decide +kernel
theorem dX10_evenShare_2 : decode cX10_evenShare 2 = .ok (.putfield 1, 3) := by decide +kernel
theorem dX10_evenShare_5 : decode cX10_evenShare 5 = .ok (.aload_n 0, 1) := by decide +kernel
theorem dX10_evenShare_6 : decode cX10_evenShare 6 = .ok (.iload_n 1, 1) := by decide +kernel
theorem dX10_evenShare_7 : decode cX10_evenShare 7 = .ok (.iload_n 2, 1) := by decide +kernel
theorem dX10_evenShare_8 : decode cX10_evenShare 8 = .ok (.invokevirtual 210, 3) := by decide +kernel
theorem dX10_evenShare_11 : decode cX10_evenShare 11 = .ok (.ifCond .eq 20, 3) := by decide +kernel
theorem dX10_evenShare_14 : decode cX10_evenShare 14 = .ok (.aload_n 0, 1) := by decide +kernel
theorem dX10_evenShare_15 : decode cX10_evenShare 15 = .ok (.iload_n 1, 1) := by decide +kernel
theorem dX10_evenShare_16 : decode cX10_evenShare 16 = .ok (.invokevirtual 349, 3) := by decide +kernel
theorem dX10_evenShare_19 : decode cX10_evenShare 19 = .ok (.ifCond .eq 12, 3) := by decide +kernel
theorem dX10_evenShare_22 : decode cX10_evenShare 22 = .ok (.iload_n 3, 1) := by decide +kernel
theorem dX10_evenShare_23 : decode cX10_evenShare 23 = .ok (.iconst 0, 1) := by decide +kernel
theorem dX10_evenShare_24 : decode cX10_evenShare 24 = .ok (.iconst 1, 1) := by decide +kernel
theorem dX10_evenShare_25 : decode cX10_evenShare 25 = .ok (.invokestatic 7, 3) := by decide +kernel
theorem dX10_evenShare_28 : decode cX10_evenShare 28 = .ok (.ifCond .ne 5, 3) := by decide +kernel
theorem dX10_evenShare_31 : decode cX10_evenShare 31 = .ok (.iconst (-1), 1) := by decide +kernel
theorem dX10_evenShare_32 : decode cX10_evenShare 32 = .ok (.ireturn, 1) := by decide +kernel
theorem dX10_evenShare_33 : decode cX10_evenShare 33 = .ok (.aload_n 0, 1) := by decide +kernel
theorem dX10_evenShare_34 : decode cX10_evenShare 34 = .ok (.iload_n 1, 1) := by decide +kernel
theorem dX10_evenShare_35 : decode cX10_evenShare 35 = .ok (.iconst 1, 1) := by decide +kernel
theorem dX10_evenShare_36 : decode cX10_evenShare 36 = .ok (.invokevirtual 352, 3) := by decide +kernel
theorem dX10_evenShare_39 : decode cX10_evenShare 39 = .ok (.aload_n 0, 1) := by decide +kernel
theorem dX10_evenShare_40 : decode cX10_evenShare 40 = .ok (.getfield 76, 3) := by decide +kernel
theorem dX10_evenShare_43 : decode cX10_evenShare 43 = .ok (.iload_n 2, 1) := by decide +kernel
theorem dX10_evenShare_44 : decode cX10_evenShare 44 = .ok (.iaload, 1) := by decide +kernel
theorem dX10_evenShare_45 : decode cX10_evenShare 45 = .ok (.i2l, 1) := by decide +kernel
theorem dX10_evenShare_46 : decode cX10_evenShare 46 = .ok (.aload_n 0, 1) := by decide +kernel
theorem dX10_evenShare_47 : decode cX10_evenShare 47 = .ok (.getfield 343, 3) := by decide +kernel
theorem dX10_evenShare_50 : decode cX10_evenShare 50 = .ok (.i2l, 1) := by decide +kernel
theorem dX10_evenShare_51 : decode cX10_evenShare 51 = .ok (.iload_n 3, 1) := by decide +kernel
theorem dX10_evenShare_52 : decode cX10_evenShare 52 = .ok (.invokestatic 324, 3) := by decide +kernel
theorem dX10_evenShare_55 : decode cX10_evenShare 55 = .ok (.ireturn, 1) := by decide +kernel
abbrev j10_evenShare : xJ := (cX10_evenShare, 4, RX10, 7, 0, 0)
def F10_evenShare (z : Nat) (x1 : Int32) (x2 : Int32) (x3 : Int32) (c_thrown : Int32) (c_told : (Nat → Int32)) (c_many : (Nat → Int32)) (c_eights : (Nat → Int32)) (c_fives : (Nat → Int32)) (c_shares : (Nat → Int32)) (c_allShares : Int32) : Option (Int32 × Int32 × (Nat → Int32) × Int32) :=
  (F10_isSplit x1 x2 c_many).bind (fun v8 => if v8 = 0 then (some ((-1 : Int32), (0 : Int32), c_shares, c_allShares)) else ((F10_hasPlan x1 c_told).bind (fun v16 => if v16 = 0 then (some ((-1 : Int32), (0 : Int32), c_shares, c_allShares)) else ((F10_within x3 (0 : Int32) (1 : Int32)).bind (fun v25 => if v25 = 0 then (some ((-1 : Int32), (0 : Int32), c_shares, c_allShares)) else ((F10_laysShares z x1 (1 : Int32) c_told c_many c_eights c_fives c_shares c_allShares).bind (fun v36 => xg (xin x2 128) ((F10_term z ((v36.1 (xn x2))).toInt64 (v36.2).toInt64 x3).bind (fun v52 => some (v52, (0 : Int32), v36.1, v36.2))))))))))
theorem T10_evenShare {X : xX} {z : Nat} {x1 : Int32} {x2 : Int32} {x3 : Int32} {c_thrown : Int32} {c_told : (Nat → Int32)} {c_many : (Nat → Int32)} {c_eights : (Nat → Int32)} {c_fives : (Nat → Int32)} {c_shares : (Nat → Int32)} {c_allShares : Int32} {c_read : (Nat → Int32)} {c_gains : (Nat → Int32)} {c_notes : (Nat → Int32)} {c_seen : (Nat → Int32)} {c_turns : (Nat → Int32)} {c_drawn : (Nat → Int32)} {c_state : Int32} {c_tape : (Nat → Int32)} {c_taped : Int32} {c_size : Int32} {c_from : Int32} {c_next : Int32} {c_token : Int32} {c_value : Int32} {c_fault : Int32} {c_number : Int32} {c_isLeft : (Nat → Int32)} {c_wentTimes : Int32} {c_goes : (Nat → Int32)} {c_isLeftLaid : Int32} {c_game : (Nat → Int32)} {c_rows : Int32} {c_columns : Int32} {c_isFound : Int32} {c_bestValue : Int64} {c_bestBelow : Int64} {c_bestShare : (Nat → Int64)} {c_share : (Nat → Int64)} {c_matrix : (Nat → Int64)} {c_system : (Nat → Int64)} {v : Int32 × Int32 × (Nat → Int32) × Int32} (hX : xIs (j10_evenShare) X ((some .int)) (some (.int v.1)) (hM v.2.1 c_told c_read c_many c_eights c_gains c_notes c_seen c_turns c_drawn c_state c_tape c_taped c_size c_from c_next c_token c_value c_fault c_number c_fives c_isLeft c_wentTimes c_goes c_isLeftLaid c_game c_rows c_columns c_isFound c_bestValue c_bestBelow c_bestShare c_share c_matrix c_system v.2.2.1 v.2.2.2)) (hf : F10_evenShare z x1 x2 x3 c_thrown c_told c_many c_eights c_fives c_shares c_allShares = some v) : xV (j10_evenShare) X 0 0 (hM c_thrown c_told c_read c_many c_eights c_gains c_notes c_seen c_turns c_drawn c_state c_tape c_taped c_size c_from c_next c_token c_value c_fault c_number c_fives c_isLeft c_wentTimes c_goes c_isLeftLaid c_game c_rows c_columns c_isFound c_bestValue c_bestBelow c_bestShare c_share c_matrix c_system c_shares c_allShares) 0 [(0, .ref 0), (1, .int x1), (2, .int x2), (3, .int x3)] [] := by
  unfold F10_evenShare at hf
  refine xV_aload_n 1 rfl dX10_evenShare_0 rfl 0 rfl ?_
  refine xV_iconst 2 rfl dX10_evenShare_1 xk_i0 ?_
  refine xV_put (h' := (hM (0 : Int32) c_told c_read c_many c_eights c_gains c_notes c_seen c_turns c_drawn c_state c_tape c_taped c_size c_from c_next c_token c_value c_fault c_number c_fives c_isLeft c_wentTimes c_goes c_isLeftLaid c_game c_rows c_columns c_isFound c_bestValue c_bestBelow c_bestShare c_share c_matrix c_system c_shares c_allShares)) 5 rfl dX10_evenShare_2 f10_1 rfl nf10_0 (fun _ => rfl) (fun _ => rfl) (Nat.le_of_ble_eq_true rfl) rfl ?_
  refine xV_aload_n 6 rfl dX10_evenShare_5 rfl 0 rfl ?_
  refine xV_iload_n 7 rfl dX10_evenShare_6 rfl 1 rfl ?_
  refine xV_iload_n 8 rfl dX10_evenShare_7 rfl 2 rfl ?_
  obtain ⟨v8, hv8, hf⟩ := xb_s hf
  refine xV_same (rest := []) 11 rfl dX10_evenShare_8 rfl (C10_isSplit X.1.2.1 hv8) m10_isSplit v10_isSplit k10_210 rfl rfl rfl rfl rfl (Nat.le_of_ble_eq_true rfl) (Nat.le_of_ble_eq_true rfl) (Nat.le_of_ble_eq_true rfl) ⟨Nat.le_refl _, Nat.le_refl _⟩ ?_
  show xV (j10_evenShare) X 0 0 (hM (0 : Int32) c_told c_read c_many c_eights c_gains c_notes c_seen c_turns c_drawn c_state c_tape c_taped c_size c_from c_next c_token c_value c_fault c_number c_fives c_isLeft c_wentTimes c_goes c_isLeftLaid c_game c_rows c_columns c_isFound c_bestValue c_bestBelow c_bestShare c_share c_matrix c_system c_shares c_allShares) 11 [(0, .ref 0), (1, .int x1), (2, .int x2), (3, .int x3)] [.int v8]
  refine xV_if_eq (tgt := 31) 14 rfl dX10_evenShare_11 (by decide) (fun h11 => ?_) (fun h11 => ?_)
  · have hf := xif_t hf h11
    refine xV_iconst 32 rfl dX10_evenShare_31 xk_im1 ?_
    obtain rfl := Option.some.inj hf
    exact xV_iret hX dX10_evenShare_32 rfl (Nat.zero_le _) (Nat.zero_le _)
  · have hf := xif_f hf h11
    refine xV_aload_n 15 rfl dX10_evenShare_14 rfl 0 rfl ?_
    refine xV_iload_n 16 rfl dX10_evenShare_15 rfl 1 rfl ?_
    obtain ⟨v16, hv16, hf⟩ := xb_s hf
    refine xV_same (rest := []) 19 rfl dX10_evenShare_16 rfl (C10_hasPlan X.1.2.1 hv16) m10_hasPlan v10_hasPlan k10_349 rfl rfl rfl rfl rfl (Nat.le_of_ble_eq_true rfl) (Nat.le_of_ble_eq_true rfl) (Nat.le_of_ble_eq_true rfl) ⟨Nat.le_refl _, Nat.le_refl _⟩ ?_
    show xV (j10_evenShare) X 0 0 (hM (0 : Int32) c_told c_read c_many c_eights c_gains c_notes c_seen c_turns c_drawn c_state c_tape c_taped c_size c_from c_next c_token c_value c_fault c_number c_fives c_isLeft c_wentTimes c_goes c_isLeftLaid c_game c_rows c_columns c_isFound c_bestValue c_bestBelow c_bestShare c_share c_matrix c_system c_shares c_allShares) 19 [(0, .ref 0), (1, .int x1), (2, .int x2), (3, .int x3)] [.int v16]
    refine xV_if_eq (tgt := 31) 22 rfl dX10_evenShare_19 (by decide) (fun h19 => ?_) (fun h19 => ?_)
    · have hf := xif_t hf h19
      refine xV_iconst 32 rfl dX10_evenShare_31 xk_im1 ?_
      obtain rfl := Option.some.inj hf
      exact xV_iret hX dX10_evenShare_32 rfl (Nat.zero_le _) (Nat.zero_le _)
    · have hf := xif_f hf h19
      refine xV_iload_n 23 rfl dX10_evenShare_22 rfl 3 rfl ?_
      refine xV_iconst 24 rfl dX10_evenShare_23 xk_i0 ?_
      refine xV_iconst 25 rfl dX10_evenShare_24 xk_i1 ?_
      obtain ⟨v25, hv25, hf⟩ := xb_s hf
      refine xV_st0 (rest := []) 28 rfl dX10_evenShare_25 rfl (C10_within X.1.2.1 hv25) m10_within s10_within k10_7 rfl (Nat.le_of_ble_eq_true rfl) (Nat.le_of_ble_eq_true rfl) (Nat.le_of_ble_eq_true rfl) ⟨Nat.le_refl _, Nat.le_refl _⟩ ?_
      show xV (j10_evenShare) X 0 0 (hM (0 : Int32) c_told c_read c_many c_eights c_gains c_notes c_seen c_turns c_drawn c_state c_tape c_taped c_size c_from c_next c_token c_value c_fault c_number c_fives c_isLeft c_wentTimes c_goes c_isLeftLaid c_game c_rows c_columns c_isFound c_bestValue c_bestBelow c_bestShare c_share c_matrix c_system c_shares c_allShares) 28 [(0, .ref 0), (1, .int x1), (2, .int x2), (3, .int x3)] [.int v25]
      refine xV_if_ne (tgt := 33) 31 rfl dX10_evenShare_28 (by decide) (fun h28 => ?_) (fun h28 => ?_)
      · have hf := xif_f hf h28
        refine xV_aload_n 34 rfl dX10_evenShare_33 rfl 0 rfl ?_
        refine xV_iload_n 35 rfl dX10_evenShare_34 rfl 1 rfl ?_
        refine xV_iconst 36 rfl dX10_evenShare_35 xk_i1 ?_
        obtain ⟨v36, hv36, hf⟩ := xb_s hf
        refine xV_same (rest := []) 39 rfl dX10_evenShare_36 rfl (C10_laysShares X.1.2.1 hv36) m10_laysShares v10_laysShares k10_352 rfl rfl rfl rfl rfl (Nat.le_of_ble_eq_true rfl) (Nat.le_of_ble_eq_true rfl) (Nat.le_of_ble_eq_true rfl) ⟨Nat.le_refl _, Nat.le_refl _⟩ ?_
        show xV (j10_evenShare) X 0 0 (hM (0 : Int32) c_told c_read c_many c_eights c_gains c_notes c_seen c_turns c_drawn c_state c_tape c_taped c_size c_from c_next c_token c_value c_fault c_number c_fives c_isLeft c_wentTimes c_goes c_isLeftLaid c_game c_rows c_columns c_isFound c_bestValue c_bestBelow c_bestShare c_share c_matrix c_system v36.1 v36.2) 39 [(0, .ref 0), (1, .int x1), (2, .int x2), (3, .int x3)] []
        refine xV_aload_n 40 rfl dX10_evenShare_39 rfl 0 rfl ?_
        refine xV_get (v := .ref 19) 43 rfl dX10_evenShare_40 f10_76 rfl rfl ?_
        refine xV_iload_n 44 rfl dX10_evenShare_43 rfl 2 rfl ?_
        obtain ⟨hg44, hf⟩ := xg_s hf
        refine xV_iaload 45 rfl dX10_evenShare_44 rfl (xin_ok hg44) rfl ?_
        refine xV_i2l 46 rfl dX10_evenShare_45 ?_
        refine xV_aload_n 47 rfl dX10_evenShare_46 rfl 0 rfl ?_
        refine xV_get (v := .int v36.2) 50 rfl dX10_evenShare_47 f10_343 rfl rfl ?_
        refine xV_i2l 51 rfl dX10_evenShare_50 ?_
        refine xV_iload_n 52 rfl dX10_evenShare_51 rfl 3 rfl ?_
        obtain ⟨v52, hv52, hf⟩ := xb_s hf
        refine xV_st0 (rest := []) 55 rfl dX10_evenShare_52 rfl (C10_term X.1.2.1 hv52) m10_term s10_term k10_324 rfl (Nat.le_of_ble_eq_true rfl) (Nat.le_of_ble_eq_true rfl) (Nat.le_of_ble_eq_true rfl) ⟨Nat.le_refl _, Nat.le_refl _⟩ ?_
        show xV (j10_evenShare) X 0 0 (hM (0 : Int32) c_told c_read c_many c_eights c_gains c_notes c_seen c_turns c_drawn c_state c_tape c_taped c_size c_from c_next c_token c_value c_fault c_number c_fives c_isLeft c_wentTimes c_goes c_isLeftLaid c_game c_rows c_columns c_isFound c_bestValue c_bestBelow c_bestShare c_share c_matrix c_system v36.1 v36.2) 55 [(0, .ref 0), (1, .int x1), (2, .int x2), (3, .int x3)] [.int v52]
        obtain rfl := Option.some.inj hf
        exact xV_iret hX dX10_evenShare_55 rfl (Nat.zero_le _) (Nat.zero_le _)
      · have hf := xif_t hf h28
        refine xV_iconst 32 rfl dX10_evenShare_31 xk_im1 ?_
        obtain rfl := Option.some.inj hf
        exact xV_iret hX dX10_evenShare_32 rfl (Nat.zero_le _) (Nat.zero_le _)
theorem C10_evenShare (l : Launch) {z : Nat} {x1 : Int32} {x2 : Int32} {x3 : Int32} {c_thrown : Int32} {c_told : (Nat → Int32)} {c_many : (Nat → Int32)} {c_eights : (Nat → Int32)} {c_fives : (Nat → Int32)} {c_shares : (Nat → Int32)} {c_allShares : Int32} {c_read : (Nat → Int32)} {c_gains : (Nat → Int32)} {c_notes : (Nat → Int32)} {c_seen : (Nat → Int32)} {c_turns : (Nat → Int32)} {c_drawn : (Nat → Int32)} {c_state : Int32} {c_tape : (Nat → Int32)} {c_taped : Int32} {c_size : Int32} {c_from : Int32} {c_next : Int32} {c_token : Int32} {c_value : Int32} {c_fault : Int32} {c_number : Int32} {c_isLeft : (Nat → Int32)} {c_wentTimes : Int32} {c_goes : (Nat → Int32)} {c_isLeftLaid : Int32} {c_game : (Nat → Int32)} {c_rows : Int32} {c_columns : Int32} {c_isFound : Int32} {c_bestValue : Int64} {c_bestBelow : Int64} {c_bestShare : (Nat → Int64)} {c_share : (Nat → Int64)} {c_matrix : (Nat → Int64)} {c_system : (Nat → Int64)} {v : Int32 × Int32 × (Nat → Int32) × Int32} (hf : F10_evenShare z x1 x2 x3 c_thrown c_told c_many c_eights c_fives c_shares c_allShares = some v) : xCt l yX10_evenShare ((some .int)) j10_evenShare [.ref 0, .int x1, .int x2, .int x3] (hM c_thrown c_told c_read c_many c_eights c_gains c_notes c_seen c_turns c_drawn c_state c_tape c_taped c_size c_from c_next c_token c_value c_fault c_number c_fives c_isLeft c_wentTimes c_goes c_isLeftLaid c_game c_rows c_columns c_isFound c_bestValue c_bestBelow c_bestShare c_share c_matrix c_system c_shares c_allShares) (some (.int v.1)) (hM v.2.1 c_told c_read c_many c_eights c_gains c_notes c_seen c_turns c_drawn c_state c_tape c_taped c_size c_from c_next c_token c_value c_fault c_number c_fives c_isLeft c_wentTimes c_goes c_isLeftLaid c_game c_rows c_columns c_isFound c_bestValue c_bestBelow c_bestShare c_share c_matrix c_system v.2.2.1 v.2.2.2) := xCt_of (by decide) rfl (Nat.le_of_ble_eq_true rfl) (fun _ hX => T10_evenShare hX hf)
theorem m10_evenShare : xMd yX10_evenShare RX10 ((some .int)) j10_evenShare 3 := ⟨List.mem_of_getElem? (i := 1173) (by decide +kernel), List.mem_of_getElem? (i := 5) (by decide +kernel), rfl, by decide +kernel⟩
theorem v10_evenShare : xMv yX10_evenShare RX10 := ⟨List.mem_of_getElem? (i := 1171) (by decide +kernel), List.mem_of_getElem? (i := 1172) (by decide +kernel)⟩
theorem dX10_both_0 : decode cX10_both 0 = .ok (.aload_n 0, 1) := by decide +kernel
theorem dX10_both_1 : decode cX10_both 1 = .ok (.iconst 0, 1) := by decide +kernel
theorem dX10_both_2 : decode cX10_both 2 = .ok (.putfield 1, 3) := by decide +kernel
theorem dX10_both_5 : decode cX10_both 5 = .ok (.iload_n 1, 1) := by decide +kernel
theorem dX10_both_6 : decode cX10_both 6 = .ok (.iconst 0, 1) := by decide +kernel
theorem dX10_both_7 : decode cX10_both 7 = .ok (.iconst 1, 1) := by decide +kernel
theorem dX10_both_8 : decode cX10_both 8 = .ok (.invokestatic 7, 3) := by decide +kernel
theorem dX10_both_11 : decode cX10_both 11 = .ok (.ifCond .eq 19, 3) := by decide +kernel
theorem dX10_both_14 : decode cX10_both 14 = .ok (.aload_n 0, 1) := by decide +kernel
theorem dX10_both_15 : decode cX10_both 15 = .ok (.iconst 0, 1) := by decide +kernel
theorem dX10_both_16 : decode cX10_both 16 = .ok (.invokevirtual 328, 3) := by decide +kernel
theorem dX10_both_19 : decode cX10_both 19 = .ok (.ifCond .eq 11, 3) := by decide +kernel
theorem dX10_both_22 : decode cX10_both 22 = .ok (.aload_n 0, 1) := by decide +kernel
theorem dX10_both_23 : decode cX10_both 23 = .ok (.iconst 1, 1) := by decide +kernel
theorem dX10_both_24 : decode cX10_both 24 = .ok (.invokevirtual 328, 3) := by decide +kernel
theorem dX10_both_27 : decode cX10_both 27 = .ok (.ifCond .ne 6, 3) := by decide +kernel
theorem dX10_both_30 : decode cX10_both 30 = .ok (.bipush (-100), 2) := by decide +kernel
theorem dX10_both_32 : decode cX10_both 32 = .ok (.ireturn, 1) := by decide +kernel
theorem dX10_both_33 : decode cX10_both 33 = .ok (.lconst 0, 1) := by decide +kernel
theorem dX10_both_34 : decode cX10_both 34 = .ok (.lstore_n 2, 1) := by decide +kernel
theorem dX10_both_35 : decode cX10_both 35 = .ok (.iconst 0, 1) := by decide +kernel
theorem dX10_both_36 : decode cX10_both 36 = .ok (.istore 4, 2) := by decide +kernel
theorem dX10_both_38 : decode cX10_both 38 = .ok (.iload 4, 2) := by decide +kernel
theorem dX10_both_40 : decode cX10_both 40 = .ok (.aload_n 0, 1) := by decide +kernel
theorem dX10_both_41 : decode cX10_both 41 = .ok (.iconst 0, 1) := by decide +kernel
theorem dX10_both_42 : decode cX10_both 42 = .ok (.invokevirtual 328, 3) := by decide +kernel
theorem dX10_both_45 : decode cX10_both 45 = .ok (.if_icmp .ge 69, 3) := by decide +kernel
theorem dX10_both_48 : decode cX10_both 48 = .ok (.iconst 0, 1) := by decide +kernel
theorem dX10_both_49 : decode cX10_both 49 = .ok (.istore 5, 2) := by decide +kernel
theorem dX10_both_51 : decode cX10_both 51 = .ok (.iload 5, 2) := by decide +kernel
theorem dX10_both_53 : decode cX10_both 53 = .ok (.aload_n 0, 1) := by decide +kernel
theorem dX10_both_54 : decode cX10_both 54 = .ok (.iconst 1, 1) := by decide +kernel
theorem dX10_both_55 : decode cX10_both 55 = .ok (.invokevirtual 328, 3) := by decide +kernel
theorem dX10_both_58 : decode cX10_both 58 = .ok (.if_icmp .ge 50, 3) := by decide +kernel
theorem dX10_both_61 : decode cX10_both 61 = .ok (.lload_n 2, 1) := by decide +kernel
theorem dX10_both_62 : decode cX10_both 62 = .ok (.aload_n 0, 1) := by decide +kernel
theorem dX10_both_63 : decode cX10_both 63 = .ok (.iconst 0, 1) := by decide +kernel
theorem dX10_both_64 : decode cX10_both 64 = .ok (.iload 4, 2) := by decide +kernel
theorem dX10_both_66 : decode cX10_both 66 = .ok (.invokevirtual 331, 3) := by decide +kernel
theorem dX10_both_69 : decode cX10_both 69 = .ok (.i2l, 1) := by decide +kernel
theorem dX10_both_70 : decode cX10_both 70 = .ok (.aload_n 0, 1) := by decide +kernel
theorem dX10_both_71 : decode cX10_both 71 = .ok (.iconst 1, 1) := by decide +kernel
theorem dX10_both_72 : decode cX10_both 72 = .ok (.iload 5, 2) := by decide +kernel
theorem dX10_both_74 : decode cX10_both 74 = .ok (.invokevirtual 331, 3) := by decide +kernel
theorem dX10_both_77 : decode cX10_both 77 = .ok (.i2l, 1) := by decide +kernel
theorem dX10_both_78 : decode cX10_both 78 = .ok (.lmul, 1) := by decide +kernel
theorem dX10_both_79 : decode cX10_both 79 = .ok (.aload_n 0, 1) := by decide +kernel
theorem dX10_both_80 : decode cX10_both 80 = .ok (.iconst 0, 1) := by decide +kernel
theorem dX10_both_81 : decode cX10_both 81 = .ok (.aload_n 0, 1) := by decide +kernel
theorem dX10_both_82 : decode cX10_both 82 = .ok (.iconst 0, 1) := by decide +kernel
theorem dX10_both_83 : decode cX10_both 83 = .ok (.iload 4, 2) := by decide +kernel
theorem dX10_both_85 : decode cX10_both 85 = .ok (.invokevirtual 334, 3) := by decide +kernel
theorem dX10_both_88 : decode cX10_both 88 = .ok (.aload_n 0, 1) := by decide +kernel
theorem dX10_both_89 : decode cX10_both 89 = .ok (.iconst 1, 1) := by decide +kernel
theorem dX10_both_90 : decode cX10_both 90 = .ok (.iload 5, 2) := by decide +kernel
theorem dX10_both_92 : decode cX10_both 92 = .ok (.invokevirtual 334, 3) := by decide +kernel
theorem dX10_both_95 : decode cX10_both 95 = .ok (.invokevirtual 233, 3) := by decide +kernel
theorem dX10_both_98 : decode cX10_both 98 = .ok (.i2l, 1) := by decide +kernel
theorem dX10_both_99 : decode cX10_both 99 = .ok (.lmul, 1) := by decide +kernel
theorem dX10_both_100 : decode cX10_both 100 = .ok (.ladd, 1) := by decide +kernel
theorem dX10_both_101 : decode cX10_both 101 = .ok (.lstore_n 2, 1) := by decide +kernel
theorem dX10_both_102 : decode cX10_both 102 = .ok (.iinc 5 1, 3) := by decide +kernel
theorem dX10_both_105 : decode cX10_both 105 = .ok (.goto (-54), 3) := by decide +kernel
theorem dX10_both_108 : decode cX10_both 108 = .ok (.iinc 4 1, 3) := by decide +kernel
theorem dX10_both_111 : decode cX10_both 111 = .ok (.goto (-73), 3) := by decide +kernel
theorem dX10_both_114 : decode cX10_both 114 = .ok (.lload_n 2, 1) := by decide +kernel
theorem dX10_both_115 : decode cX10_both 115 = .ok (.aload_n 0, 1) := by decide +kernel
theorem dX10_both_116 : decode cX10_both 116 = .ok (.iconst 0, 1) := by decide +kernel
theorem dX10_both_117 : decode cX10_both 117 = .ok (.invokevirtual 340, 3) := by decide +kernel
theorem dX10_both_120 : decode cX10_both 120 = .ok (.i2l, 1) := by decide +kernel
theorem dX10_both_121 : decode cX10_both 121 = .ok (.aload_n 0, 1) := by decide +kernel
theorem dX10_both_122 : decode cX10_both 122 = .ok (.iconst 1, 1) := by decide +kernel
theorem dX10_both_123 : decode cX10_both 123 = .ok (.invokevirtual 340, 3) := by decide +kernel
theorem dX10_both_126 : decode cX10_both 126 = .ok (.i2l, 1) := by decide +kernel
theorem dX10_both_127 : decode cX10_both 127 = .ok (.lmul, 1) := by decide +kernel
theorem dX10_both_128 : decode cX10_both 128 = .ok (.iload_n 1, 1) := by decide +kernel
theorem dX10_both_129 : decode cX10_both 129 = .ok (.invokestatic 324, 3) := by decide +kernel
theorem dX10_both_132 : decode cX10_both 132 = .ok (.ireturn, 1) := by decide +kernel
abbrev j10_both : xJ := (cX10_both, 6, RX10, 4, 0, 0)
def F10_both_b114 (z : Nat) (x1 : Int32) (x2 : Int64) (c_thrown : Int32) (c_told : (Nat → Int32)) (c_many : (Nat → Int32)) (c_eights : (Nat → Int32)) (c_gains : (Nat → Int32)) : Option (Int32 × Int32) :=
  (F10_weights z (0 : Int32) c_told).bind (fun v117 => (F10_weights z (1 : Int32) c_told).bind (fun v123 => (F10_term z x2 ((v117).toInt64 * (v123).toInt64) x1).bind (fun v129 => some (v129, c_thrown))))
theorem T10_both_b114 {X : xX} {c_read : (Nat → Int32)} {c_notes : (Nat → Int32)} {c_seen : (Nat → Int32)} {c_turns : (Nat → Int32)} {c_drawn : (Nat → Int32)} {c_state : Int32} {c_tape : (Nat → Int32)} {c_taped : Int32} {c_size : Int32} {c_from : Int32} {c_next : Int32} {c_token : Int32} {c_value : Int32} {c_fault : Int32} {c_number : Int32} {c_fives : (Nat → Int32)} {c_isLeft : (Nat → Int32)} {c_wentTimes : Int32} {c_goes : (Nat → Int32)} {c_isLeftLaid : Int32} {c_game : (Nat → Int32)} {c_rows : Int32} {c_columns : Int32} {c_isFound : Int32} {c_bestValue : Int64} {c_bestBelow : Int64} {c_bestShare : (Nat → Int64)} {c_share : (Nat → Int64)} {c_matrix : (Nat → Int64)} {c_system : (Nat → Int64)} {c_shares : (Nat → Int32)} {c_allShares : Int32} {x1 : Int32} {x2 : Int64} {c_thrown : Int32} {c_told : (Nat → Int32)} {c_many : (Nat → Int32)} {c_eights : (Nat → Int32)} {c_gains : (Nat → Int32)} {z : Nat} {v : Int32 × Int32} (hX : xIs (j10_both) X ((some .int)) (some (.int v.1)) (hM v.2 c_told c_read c_many c_eights c_gains c_notes c_seen c_turns c_drawn c_state c_tape c_taped c_size c_from c_next c_token c_value c_fault c_number c_fives c_isLeft c_wentTimes c_goes c_isLeftLaid c_game c_rows c_columns c_isFound c_bestValue c_bestBelow c_bestShare c_share c_matrix c_system c_shares c_allShares)) (hf : F10_both_b114 z x1 x2 c_thrown c_told c_many c_eights c_gains = some v) : xV (j10_both) X 0 0 (hM c_thrown c_told c_read c_many c_eights c_gains c_notes c_seen c_turns c_drawn c_state c_tape c_taped c_size c_from c_next c_token c_value c_fault c_number c_fives c_isLeft c_wentTimes c_goes c_isLeftLaid c_game c_rows c_columns c_isFound c_bestValue c_bestBelow c_bestShare c_share c_matrix c_system c_shares c_allShares) 114 [(0, .ref 0), (1, .int x1), (2, .long x2)] [] := by
  unfold F10_both_b114 at hf
  refine xV_lload_n 115 rfl dX10_both_114 rfl 2 rfl ?_
  refine xV_aload_n 116 rfl dX10_both_115 rfl 0 rfl ?_
  refine xV_iconst 117 rfl dX10_both_116 xk_i0 ?_
  obtain ⟨v117, hv117, hf⟩ := xb_s hf
  refine xV_same (rest := [.long x2]) 120 rfl dX10_both_117 rfl (C10_weights X.1.2.1 hv117) m10_weights v10_weights k10_340 rfl rfl rfl rfl rfl (Nat.le_of_ble_eq_true rfl) (Nat.le_of_ble_eq_true rfl) (Nat.le_of_ble_eq_true rfl) ⟨Nat.le_refl _, Nat.le_refl _⟩ ?_
  show xV (j10_both) X 0 0 (hM c_thrown c_told c_read c_many c_eights c_gains c_notes c_seen c_turns c_drawn c_state c_tape c_taped c_size c_from c_next c_token c_value c_fault c_number c_fives c_isLeft c_wentTimes c_goes c_isLeftLaid c_game c_rows c_columns c_isFound c_bestValue c_bestBelow c_bestShare c_share c_matrix c_system c_shares c_allShares) 120 [(0, .ref 0), (1, .int x1), (2, .long x2)] [.int v117, .long x2]
  refine xV_i2l 121 rfl dX10_both_120 ?_
  refine xV_aload_n 122 rfl dX10_both_121 rfl 0 rfl ?_
  refine xV_iconst 123 rfl dX10_both_122 xk_i1 ?_
  obtain ⟨v123, hv123, hf⟩ := xb_s hf
  refine xV_same (rest := [.long (v117).toInt64, .long x2]) 126 rfl dX10_both_123 rfl (C10_weights X.1.2.1 hv123) m10_weights v10_weights k10_340 rfl rfl rfl rfl rfl (Nat.le_of_ble_eq_true rfl) (Nat.le_of_ble_eq_true rfl) (Nat.le_of_ble_eq_true rfl) ⟨Nat.le_refl _, Nat.le_refl _⟩ ?_
  show xV (j10_both) X 0 0 (hM c_thrown c_told c_read c_many c_eights c_gains c_notes c_seen c_turns c_drawn c_state c_tape c_taped c_size c_from c_next c_token c_value c_fault c_number c_fives c_isLeft c_wentTimes c_goes c_isLeftLaid c_game c_rows c_columns c_isFound c_bestValue c_bestBelow c_bestShare c_share c_matrix c_system c_shares c_allShares) 126 [(0, .ref 0), (1, .int x1), (2, .long x2)] [.int v123, .long (v117).toInt64, .long x2]
  refine xV_i2l 127 rfl dX10_both_126 ?_
  refine xV_lmul 128 rfl dX10_both_127 ?_
  refine xV_iload_n 129 rfl dX10_both_128 rfl 1 rfl ?_
  obtain ⟨v129, hv129, hf⟩ := xb_s hf
  refine xV_st0 (rest := []) 132 rfl dX10_both_129 rfl (C10_term X.1.2.1 hv129) m10_term s10_term k10_324 rfl (Nat.le_of_ble_eq_true rfl) (Nat.le_of_ble_eq_true rfl) (Nat.le_of_ble_eq_true rfl) ⟨Nat.le_refl _, Nat.le_refl _⟩ ?_
  show xV (j10_both) X 0 0 (hM c_thrown c_told c_read c_many c_eights c_gains c_notes c_seen c_turns c_drawn c_state c_tape c_taped c_size c_from c_next c_token c_value c_fault c_number c_fives c_isLeft c_wentTimes c_goes c_isLeftLaid c_game c_rows c_columns c_isFound c_bestValue c_bestBelow c_bestShare c_share c_matrix c_system c_shares c_allShares) 132 [(0, .ref 0), (1, .int x1), (2, .long x2)] [.int v129]
  obtain rfl := Option.some.inj hf
  exact xV_iret hX dX10_both_132 rfl (Nat.zero_le _) (Nat.zero_le _)
def F10_both_b108 (z : Nat) (x1 : Int32) (x2 : Int64) (x4 : Int32) (c_thrown : Int32) (c_told : (Nat → Int32)) (c_many : (Nat → Int32)) (c_eights : (Nat → Int32)) (c_gains : (Nat → Int32)) (k38 : Int32 → Int64 → Int32 → Int32 → (Nat → Int32) → (Nat → Int32) → (Nat → Int32) → (Nat → Int32) → Option (Int32 × Int32)) : Option (Int32 × Int32) :=
  k38 x1 x2 (x4 + (1 : Int32)) c_thrown c_told c_many c_eights c_gains
theorem T10_both_b108 {X : xX} {c_read : (Nat → Int32)} {c_notes : (Nat → Int32)} {c_seen : (Nat → Int32)} {c_turns : (Nat → Int32)} {c_drawn : (Nat → Int32)} {c_state : Int32} {c_tape : (Nat → Int32)} {c_taped : Int32} {c_size : Int32} {c_from : Int32} {c_next : Int32} {c_token : Int32} {c_value : Int32} {c_fault : Int32} {c_number : Int32} {c_fives : (Nat → Int32)} {c_isLeft : (Nat → Int32)} {c_wentTimes : Int32} {c_goes : (Nat → Int32)} {c_isLeftLaid : Int32} {c_game : (Nat → Int32)} {c_rows : Int32} {c_columns : Int32} {c_isFound : Int32} {c_bestValue : Int64} {c_bestBelow : Int64} {c_bestShare : (Nat → Int64)} {c_share : (Nat → Int64)} {c_matrix : (Nat → Int64)} {c_system : (Nat → Int64)} {c_shares : (Nat → Int32)} {c_allShares : Int32} {x1 : Int32} {x2 : Int64} {x4 : Int32} {c_thrown : Int32} {c_told : (Nat → Int32)} {c_many : (Nat → Int32)} {c_eights : (Nat → Int32)} {c_gains : (Nat → Int32)} {z : Nat} {v : Int32 × Int32} {k38 : Int32 → Int64 → Int32 → Int32 → (Nat → Int32) → (Nat → Int32) → (Nat → Int32) → (Nat → Int32) → Option (Int32 × Int32)} (hX : xIs (j10_both) X ((some .int)) (some (.int v.1)) (hM v.2 c_told c_read c_many c_eights c_gains c_notes c_seen c_turns c_drawn c_state c_tape c_taped c_size c_from c_next c_token c_value c_fault c_number c_fives c_isLeft c_wentTimes c_goes c_isLeftLaid c_game c_rows c_columns c_isFound c_bestValue c_bestBelow c_bestShare c_share c_matrix c_system c_shares c_allShares)) (hk38 : ∀ {x1 : Int32} {x2 : Int64} {x4 : Int32} {c_thrown : Int32}, k38 x1 x2 x4 c_thrown c_told c_many c_eights c_gains = some v → xV (j10_both) X 0 0 (hM c_thrown c_told c_read c_many c_eights c_gains c_notes c_seen c_turns c_drawn c_state c_tape c_taped c_size c_from c_next c_token c_value c_fault c_number c_fives c_isLeft c_wentTimes c_goes c_isLeftLaid c_game c_rows c_columns c_isFound c_bestValue c_bestBelow c_bestShare c_share c_matrix c_system c_shares c_allShares) 38 [(0, .ref 0), (1, .int x1), (2, .long x2), (4, .int x4)] []) (hf : F10_both_b108 z x1 x2 x4 c_thrown c_told c_many c_eights c_gains k38 = some v) : xV (j10_both) X 0 0 (hM c_thrown c_told c_read c_many c_eights c_gains c_notes c_seen c_turns c_drawn c_state c_tape c_taped c_size c_from c_next c_token c_value c_fault c_number c_fives c_isLeft c_wentTimes c_goes c_isLeftLaid c_game c_rows c_columns c_isFound c_bestValue c_bestBelow c_bestShare c_share c_matrix c_system c_shares c_allShares) 108 [(0, .ref 0), (1, .int x1), (2, .long x2), (4, .int x4)] [] := by
  unfold F10_both_b108 at hf
  refine xV_iinc (L' := [(4, .int (x4 + (1 : Int32))), (0, .ref 0), (1, .int x1), (2, .long x2)]) 111 rfl dX10_both_108 3 rfl (xk_inc xk_i1) (xlt rfl) rfl ?_
  refine xV_goto (tgt := 38) dX10_both_111 (by decide) ?_
  refine xV_sub [1, 2, 3, 0] rfl ?_
  exact hk38 hf
def F10_both_b51 (z : Nat) (w : Nat) (x1 : Int32) (x2 : Int64) (x4 : Int32) (x5 : Int32) (c_thrown : Int32) (c_told : (Nat → Int32)) (c_many : (Nat → Int32)) (c_eights : (Nat → Int32)) (c_gains : (Nat → Int32)) (k38 : Int32 → Int64 → Int32 → Int32 → (Nat → Int32) → (Nat → Int32) → (Nat → Int32) → (Nat → Int32) → Option (Int32 × Int32)) : Option (Int32 × Int32) := match w with
  | 0 => none
  | w + 1 => (F10_planned (1 : Int32) c_told).bind (fun v55 => if v55 ≤ x5 then (F10_both_b108 z x1 x2 x4 c_thrown c_told c_many c_eights c_gains k38) else ((F10_weightAt (0 : Int32) x4 c_told).bind (fun v66 => (F10_weightAt (1 : Int32) x5 c_told).bind (fun v74 => (F10_planAt z (0 : Int32) x4 c_told c_many c_eights).bind (fun v85 => (F10_planAt z (1 : Int32) x5 c_told c_many c_eights).bind (fun v92 => (F10_gainFor (0 : Int32) v85 v92 c_gains).bind (fun v95 => F10_both_b51 z w x1 (x2 + (((v66).toInt64 * (v74).toInt64) * (v95).toInt64)) x4 (x5 + (1 : Int32)) c_thrown c_told c_many c_eights c_gains k38)))))))
theorem T10_both_b51 {X : xX} {c_told : (Nat → Int32)} {c_read : (Nat → Int32)} {c_many : (Nat → Int32)} {c_eights : (Nat → Int32)} {c_gains : (Nat → Int32)} {c_notes : (Nat → Int32)} {c_seen : (Nat → Int32)} {c_turns : (Nat → Int32)} {c_drawn : (Nat → Int32)} {c_state : Int32} {c_tape : (Nat → Int32)} {c_taped : Int32} {c_size : Int32} {c_from : Int32} {c_next : Int32} {c_token : Int32} {c_value : Int32} {c_fault : Int32} {c_number : Int32} {c_fives : (Nat → Int32)} {c_isLeft : (Nat → Int32)} {c_wentTimes : Int32} {c_goes : (Nat → Int32)} {c_isLeftLaid : Int32} {c_game : (Nat → Int32)} {c_rows : Int32} {c_columns : Int32} {c_isFound : Int32} {c_bestValue : Int64} {c_bestBelow : Int64} {c_bestShare : (Nat → Int64)} {c_share : (Nat → Int64)} {c_matrix : (Nat → Int64)} {c_system : (Nat → Int64)} {c_shares : (Nat → Int32)} {c_allShares : Int32} {z : Nat} {v : Int32 × Int32} {k38 : Int32 → Int64 → Int32 → Int32 → (Nat → Int32) → (Nat → Int32) → (Nat → Int32) → (Nat → Int32) → Option (Int32 × Int32)} (hX : xIs (j10_both) X ((some .int)) (some (.int v.1)) (hM v.2 c_told c_read c_many c_eights c_gains c_notes c_seen c_turns c_drawn c_state c_tape c_taped c_size c_from c_next c_token c_value c_fault c_number c_fives c_isLeft c_wentTimes c_goes c_isLeftLaid c_game c_rows c_columns c_isFound c_bestValue c_bestBelow c_bestShare c_share c_matrix c_system c_shares c_allShares)) (hk38 : ∀ {x1 : Int32} {x2 : Int64} {x4 : Int32} {c_thrown : Int32}, k38 x1 x2 x4 c_thrown c_told c_many c_eights c_gains = some v → xV (j10_both) X 0 0 (hM c_thrown c_told c_read c_many c_eights c_gains c_notes c_seen c_turns c_drawn c_state c_tape c_taped c_size c_from c_next c_token c_value c_fault c_number c_fives c_isLeft c_wentTimes c_goes c_isLeftLaid c_game c_rows c_columns c_isFound c_bestValue c_bestBelow c_bestShare c_share c_matrix c_system c_shares c_allShares) 38 [(0, .ref 0), (1, .int x1), (2, .long x2), (4, .int x4)] []) : ∀ (w : Nat) {x1 : Int32} {x2 : Int64} {x4 : Int32} {x5 : Int32} {c_thrown : Int32}, F10_both_b51 z w x1 x2 x4 x5 c_thrown c_told c_many c_eights c_gains k38 = some v → xV (j10_both) X 0 0 (hM c_thrown c_told c_read c_many c_eights c_gains c_notes c_seen c_turns c_drawn c_state c_tape c_taped c_size c_from c_next c_token c_value c_fault c_number c_fives c_isLeft c_wentTimes c_goes c_isLeftLaid c_game c_rows c_columns c_isFound c_bestValue c_bestBelow c_bestShare c_share c_matrix c_system c_shares c_allShares) 51 [(0, .ref 0), (1, .int x1), (2, .long x2), (4, .int x4), (5, .int x5)] [] := by
  intro w
  induction w with
  | zero => intro x1 x2 x4 x5 c_thrown hf; cases hf
  | succ w ih =>
    intro x1 x2 x4 x5 c_thrown hf
    unfold F10_both_b51 at hf
    refine xV_iload 53 rfl dX10_both_51 4 rfl ?_
    refine xV_aload_n 54 rfl dX10_both_53 rfl 0 rfl ?_
    refine xV_iconst 55 rfl dX10_both_54 xk_i1 ?_
    obtain ⟨v55, hv55, hf⟩ := xb_s hf
    refine xV_same (rest := [.int x5]) 58 rfl dX10_both_55 rfl (C10_planned X.1.2.1 hv55) m10_planned v10_planned k10_328 rfl rfl rfl rfl rfl (Nat.le_of_ble_eq_true rfl) (Nat.le_of_ble_eq_true rfl) (Nat.le_of_ble_eq_true rfl) ⟨Nat.le_refl _, Nat.le_refl _⟩ ?_
    show xV (j10_both) X 0 0 (hM c_thrown c_told c_read c_many c_eights c_gains c_notes c_seen c_turns c_drawn c_state c_tape c_taped c_size c_from c_next c_token c_value c_fault c_number c_fives c_isLeft c_wentTimes c_goes c_isLeftLaid c_game c_rows c_columns c_isFound c_bestValue c_bestBelow c_bestShare c_share c_matrix c_system c_shares c_allShares) 58 [(0, .ref 0), (1, .int x1), (2, .long x2), (4, .int x4), (5, .int x5)] [.int v55, .int x5]
    refine xV_icmp_ge (tgt := 108) 61 rfl dX10_both_58 (by decide) (fun h58 => ?_) (fun h58 => ?_)
    · have hf := xif_t hf h58
      refine xV_sub [0, 1, 2, 3] rfl ?_
      exact T10_both_b108 hX hk38 hf
    · have hf := xif_f hf h58
      refine xV_lload_n 62 rfl dX10_both_61 rfl 2 rfl ?_
      refine xV_aload_n 63 rfl dX10_both_62 rfl 0 rfl ?_
      refine xV_iconst 64 rfl dX10_both_63 xk_i0 ?_
      refine xV_iload 66 rfl dX10_both_64 3 rfl ?_
      obtain ⟨v66, hv66, hf⟩ := xb_s hf
      refine xV_same (rest := [.long x2]) 69 rfl dX10_both_66 rfl (C10_weightAt X.1.2.1 hv66) m10_weightAt v10_weightAt k10_331 rfl rfl rfl rfl rfl (Nat.le_of_ble_eq_true rfl) (Nat.le_of_ble_eq_true rfl) (Nat.le_of_ble_eq_true rfl) ⟨Nat.le_refl _, Nat.le_refl _⟩ ?_
      show xV (j10_both) X 0 0 (hM c_thrown c_told c_read c_many c_eights c_gains c_notes c_seen c_turns c_drawn c_state c_tape c_taped c_size c_from c_next c_token c_value c_fault c_number c_fives c_isLeft c_wentTimes c_goes c_isLeftLaid c_game c_rows c_columns c_isFound c_bestValue c_bestBelow c_bestShare c_share c_matrix c_system c_shares c_allShares) 69 [(0, .ref 0), (1, .int x1), (2, .long x2), (4, .int x4), (5, .int x5)] [.int v66, .long x2]
      refine xV_i2l 70 rfl dX10_both_69 ?_
      refine xV_aload_n 71 rfl dX10_both_70 rfl 0 rfl ?_
      refine xV_iconst 72 rfl dX10_both_71 xk_i1 ?_
      refine xV_iload 74 rfl dX10_both_72 4 rfl ?_
      obtain ⟨v74, hv74, hf⟩ := xb_s hf
      refine xV_same (rest := [.long (v66).toInt64, .long x2]) 77 rfl dX10_both_74 rfl (C10_weightAt X.1.2.1 hv74) m10_weightAt v10_weightAt k10_331 rfl rfl rfl rfl rfl (Nat.le_of_ble_eq_true rfl) (Nat.le_of_ble_eq_true rfl) (Nat.le_of_ble_eq_true rfl) ⟨Nat.le_refl _, Nat.le_refl _⟩ ?_
      show xV (j10_both) X 0 0 (hM c_thrown c_told c_read c_many c_eights c_gains c_notes c_seen c_turns c_drawn c_state c_tape c_taped c_size c_from c_next c_token c_value c_fault c_number c_fives c_isLeft c_wentTimes c_goes c_isLeftLaid c_game c_rows c_columns c_isFound c_bestValue c_bestBelow c_bestShare c_share c_matrix c_system c_shares c_allShares) 77 [(0, .ref 0), (1, .int x1), (2, .long x2), (4, .int x4), (5, .int x5)] [.int v74, .long (v66).toInt64, .long x2]
      refine xV_i2l 78 rfl dX10_both_77 ?_
      refine xV_lmul 79 rfl dX10_both_78 ?_
      refine xV_aload_n 80 rfl dX10_both_79 rfl 0 rfl ?_
      refine xV_iconst 81 rfl dX10_both_80 xk_i0 ?_
      refine xV_aload_n 82 rfl dX10_both_81 rfl 0 rfl ?_
      refine xV_iconst 83 rfl dX10_both_82 xk_i0 ?_
      refine xV_iload 85 rfl dX10_both_83 3 rfl ?_
      obtain ⟨v85, hv85, hf⟩ := xb_s hf
      refine xV_same (rest := [.int (0 : Int32), .ref 0, .long ((v66).toInt64 * (v74).toInt64), .long x2]) 88 rfl dX10_both_85 rfl (C10_planAt X.1.2.1 hv85) m10_planAt v10_planAt k10_334 rfl rfl rfl rfl rfl (Nat.le_of_ble_eq_true rfl) (Nat.le_of_ble_eq_true rfl) (Nat.le_of_ble_eq_true rfl) ⟨Nat.le_refl _, Nat.le_refl _⟩ ?_
      show xV (j10_both) X 0 0 (hM c_thrown c_told c_read c_many c_eights c_gains c_notes c_seen c_turns c_drawn c_state c_tape c_taped c_size c_from c_next c_token c_value c_fault c_number c_fives c_isLeft c_wentTimes c_goes c_isLeftLaid c_game c_rows c_columns c_isFound c_bestValue c_bestBelow c_bestShare c_share c_matrix c_system c_shares c_allShares) 88 [(0, .ref 0), (1, .int x1), (2, .long x2), (4, .int x4), (5, .int x5)] [.int v85, .int (0 : Int32), .ref 0, .long ((v66).toInt64 * (v74).toInt64), .long x2]
      refine xV_aload_n 89 rfl dX10_both_88 rfl 0 rfl ?_
      refine xV_iconst 90 rfl dX10_both_89 xk_i1 ?_
      refine xV_iload 92 rfl dX10_both_90 4 rfl ?_
      obtain ⟨v92, hv92, hf⟩ := xb_s hf
      refine xV_same (rest := [.int v85, .int (0 : Int32), .ref 0, .long ((v66).toInt64 * (v74).toInt64), .long x2]) 95 rfl dX10_both_92 rfl (C10_planAt X.1.2.1 hv92) m10_planAt v10_planAt k10_334 rfl rfl rfl rfl rfl (Nat.le_of_ble_eq_true rfl) (Nat.le_of_ble_eq_true rfl) (Nat.le_of_ble_eq_true rfl) ⟨Nat.le_refl _, Nat.le_refl _⟩ ?_
      show xV (j10_both) X 0 0 (hM c_thrown c_told c_read c_many c_eights c_gains c_notes c_seen c_turns c_drawn c_state c_tape c_taped c_size c_from c_next c_token c_value c_fault c_number c_fives c_isLeft c_wentTimes c_goes c_isLeftLaid c_game c_rows c_columns c_isFound c_bestValue c_bestBelow c_bestShare c_share c_matrix c_system c_shares c_allShares) 95 [(0, .ref 0), (1, .int x1), (2, .long x2), (4, .int x4), (5, .int x5)] [.int v92, .int v85, .int (0 : Int32), .ref 0, .long ((v66).toInt64 * (v74).toInt64), .long x2]
      obtain ⟨v95, hv95, hf⟩ := xb_s hf
      refine xV_same (rest := [.long ((v66).toInt64 * (v74).toInt64), .long x2]) 98 rfl dX10_both_95 rfl (C10_gainFor X.1.2.1 hv95) m10_gainFor v10_gainFor k10_233 rfl rfl rfl rfl rfl (Nat.le_of_ble_eq_true rfl) (Nat.le_of_ble_eq_true rfl) (Nat.le_of_ble_eq_true rfl) ⟨Nat.le_refl _, Nat.le_refl _⟩ ?_
      show xV (j10_both) X 0 0 (hM c_thrown c_told c_read c_many c_eights c_gains c_notes c_seen c_turns c_drawn c_state c_tape c_taped c_size c_from c_next c_token c_value c_fault c_number c_fives c_isLeft c_wentTimes c_goes c_isLeftLaid c_game c_rows c_columns c_isFound c_bestValue c_bestBelow c_bestShare c_share c_matrix c_system c_shares c_allShares) 98 [(0, .ref 0), (1, .int x1), (2, .long x2), (4, .int x4), (5, .int x5)] [.int v95, .long ((v66).toInt64 * (v74).toInt64), .long x2]
      refine xV_i2l 99 rfl dX10_both_98 ?_
      refine xV_lmul 100 rfl dX10_both_99 ?_
      refine xV_ladd 101 rfl dX10_both_100 ?_
      refine xV_lstore_n (L' := [(2, .long (x2 + (((v66).toInt64 * (v74).toInt64) * (v95).toInt64))), (0, .ref 0), (1, .int x1), (4, .int x4), (5, .int x5)]) 102 rfl dX10_both_101 rfl (xlt rfl) rfl ?_
      refine xV_iinc (L' := [(5, .int (x5 + (1 : Int32))), (2, .long (x2 + (((v66).toInt64 * (v74).toInt64) * (v95).toInt64))), (0, .ref 0), (1, .int x1), (4, .int x4)]) 105 rfl dX10_both_102 4 rfl (xk_inc xk_i1) (xlt rfl) rfl ?_
      refine xV_goto (tgt := 51) dX10_both_105 (by decide) ?_
      refine xV_sub [2, 3, 1, 4, 0] rfl ?_
      exact ih hf
def F10_both_b38 (z : Nat) (w : Nat) (x1 : Int32) (x2 : Int64) (x4 : Int32) (c_thrown : Int32) (c_told : (Nat → Int32)) (c_many : (Nat → Int32)) (c_eights : (Nat → Int32)) (c_gains : (Nat → Int32)) : Option (Int32 × Int32) := match w with
  | 0 => none
  | w + 1 => (F10_planned (0 : Int32) c_told).bind (fun v42 => if v42 ≤ x4 then (F10_both_b114 z x1 x2 c_thrown c_told c_many c_eights c_gains) else (F10_both_b51 z z x1 x2 x4 (0 : Int32) c_thrown c_told c_many c_eights c_gains (fun q0 q1 q2 q3 q4 q5 q6 q7 => F10_both_b38 z w q0 q1 q2 q3 q4 q5 q6 q7)))
theorem T10_both_b38 {X : xX} {c_told : (Nat → Int32)} {c_read : (Nat → Int32)} {c_many : (Nat → Int32)} {c_eights : (Nat → Int32)} {c_gains : (Nat → Int32)} {c_notes : (Nat → Int32)} {c_seen : (Nat → Int32)} {c_turns : (Nat → Int32)} {c_drawn : (Nat → Int32)} {c_state : Int32} {c_tape : (Nat → Int32)} {c_taped : Int32} {c_size : Int32} {c_from : Int32} {c_next : Int32} {c_token : Int32} {c_value : Int32} {c_fault : Int32} {c_number : Int32} {c_fives : (Nat → Int32)} {c_isLeft : (Nat → Int32)} {c_wentTimes : Int32} {c_goes : (Nat → Int32)} {c_isLeftLaid : Int32} {c_game : (Nat → Int32)} {c_rows : Int32} {c_columns : Int32} {c_isFound : Int32} {c_bestValue : Int64} {c_bestBelow : Int64} {c_bestShare : (Nat → Int64)} {c_share : (Nat → Int64)} {c_matrix : (Nat → Int64)} {c_system : (Nat → Int64)} {c_shares : (Nat → Int32)} {c_allShares : Int32} {z : Nat} {v : Int32 × Int32} (hX : xIs (j10_both) X ((some .int)) (some (.int v.1)) (hM v.2 c_told c_read c_many c_eights c_gains c_notes c_seen c_turns c_drawn c_state c_tape c_taped c_size c_from c_next c_token c_value c_fault c_number c_fives c_isLeft c_wentTimes c_goes c_isLeftLaid c_game c_rows c_columns c_isFound c_bestValue c_bestBelow c_bestShare c_share c_matrix c_system c_shares c_allShares)) : ∀ (w : Nat) {x1 : Int32} {x2 : Int64} {x4 : Int32} {c_thrown : Int32}, F10_both_b38 z w x1 x2 x4 c_thrown c_told c_many c_eights c_gains = some v → xV (j10_both) X 0 0 (hM c_thrown c_told c_read c_many c_eights c_gains c_notes c_seen c_turns c_drawn c_state c_tape c_taped c_size c_from c_next c_token c_value c_fault c_number c_fives c_isLeft c_wentTimes c_goes c_isLeftLaid c_game c_rows c_columns c_isFound c_bestValue c_bestBelow c_bestShare c_share c_matrix c_system c_shares c_allShares) 38 [(0, .ref 0), (1, .int x1), (2, .long x2), (4, .int x4)] [] := by
  intro w
  induction w with
  | zero => intro x1 x2 x4 c_thrown hf; cases hf
  | succ w ih =>
    intro x1 x2 x4 c_thrown hf
    unfold F10_both_b38 at hf
    refine xV_iload 40 rfl dX10_both_38 3 rfl ?_
    refine xV_aload_n 41 rfl dX10_both_40 rfl 0 rfl ?_
    refine xV_iconst 42 rfl dX10_both_41 xk_i0 ?_
    obtain ⟨v42, hv42, hf⟩ := xb_s hf
    refine xV_same (rest := [.int x4]) 45 rfl dX10_both_42 rfl (C10_planned X.1.2.1 hv42) m10_planned v10_planned k10_328 rfl rfl rfl rfl rfl (Nat.le_of_ble_eq_true rfl) (Nat.le_of_ble_eq_true rfl) (Nat.le_of_ble_eq_true rfl) ⟨Nat.le_refl _, Nat.le_refl _⟩ ?_
    show xV (j10_both) X 0 0 (hM c_thrown c_told c_read c_many c_eights c_gains c_notes c_seen c_turns c_drawn c_state c_tape c_taped c_size c_from c_next c_token c_value c_fault c_number c_fives c_isLeft c_wentTimes c_goes c_isLeftLaid c_game c_rows c_columns c_isFound c_bestValue c_bestBelow c_bestShare c_share c_matrix c_system c_shares c_allShares) 45 [(0, .ref 0), (1, .int x1), (2, .long x2), (4, .int x4)] [.int v42, .int x4]
    refine xV_icmp_ge (tgt := 114) 48 rfl dX10_both_45 (by decide) (fun h45 => ?_) (fun h45 => ?_)
    · have hf := xif_t hf h45
      refine xV_sub [0, 1, 2] rfl ?_
      exact T10_both_b114 hX hf
    · have hf := xif_f hf h45
      refine xV_iconst 49 rfl dX10_both_48 xk_i0 ?_
      refine xV_istore (L' := [(5, .int (0 : Int32)), (0, .ref 0), (1, .int x1), (2, .long x2), (4, .int x4)]) 51 rfl dX10_both_49 (xlt rfl) rfl ?_
      refine xV_sub [1, 2, 3, 4, 0] rfl ?_
      exact T10_both_b51 hX (fun {_ _ _ _} hq => ih hq) _ hf
def F10_both (z : Nat) (x1 : Int32) (c_thrown : Int32) (c_told : (Nat → Int32)) (c_many : (Nat → Int32)) (c_eights : (Nat → Int32)) (c_gains : (Nat → Int32)) : Option (Int32 × Int32) :=
  (F10_within x1 (0 : Int32) (1 : Int32)).bind (fun v8 => if v8 = 0 then (some ((-100 : Int32), (0 : Int32))) else ((F10_planned (0 : Int32) c_told).bind (fun v16 => if v16 = 0 then (some ((-100 : Int32), (0 : Int32))) else ((F10_planned (1 : Int32) c_told).bind (fun v24 => if v24 = 0 then (some ((-100 : Int32), (0 : Int32))) else (F10_both_b38 z z x1 (0 : Int64) (0 : Int32) (0 : Int32) c_told c_many c_eights c_gains))))))
theorem T10_both {X : xX} {z : Nat} {x1 : Int32} {c_thrown : Int32} {c_told : (Nat → Int32)} {c_many : (Nat → Int32)} {c_eights : (Nat → Int32)} {c_gains : (Nat → Int32)} {c_read : (Nat → Int32)} {c_notes : (Nat → Int32)} {c_seen : (Nat → Int32)} {c_turns : (Nat → Int32)} {c_drawn : (Nat → Int32)} {c_state : Int32} {c_tape : (Nat → Int32)} {c_taped : Int32} {c_size : Int32} {c_from : Int32} {c_next : Int32} {c_token : Int32} {c_value : Int32} {c_fault : Int32} {c_number : Int32} {c_fives : (Nat → Int32)} {c_isLeft : (Nat → Int32)} {c_wentTimes : Int32} {c_goes : (Nat → Int32)} {c_isLeftLaid : Int32} {c_game : (Nat → Int32)} {c_rows : Int32} {c_columns : Int32} {c_isFound : Int32} {c_bestValue : Int64} {c_bestBelow : Int64} {c_bestShare : (Nat → Int64)} {c_share : (Nat → Int64)} {c_matrix : (Nat → Int64)} {c_system : (Nat → Int64)} {c_shares : (Nat → Int32)} {c_allShares : Int32} {v : Int32 × Int32} (hX : xIs (j10_both) X ((some .int)) (some (.int v.1)) (hM v.2 c_told c_read c_many c_eights c_gains c_notes c_seen c_turns c_drawn c_state c_tape c_taped c_size c_from c_next c_token c_value c_fault c_number c_fives c_isLeft c_wentTimes c_goes c_isLeftLaid c_game c_rows c_columns c_isFound c_bestValue c_bestBelow c_bestShare c_share c_matrix c_system c_shares c_allShares)) (hf : F10_both z x1 c_thrown c_told c_many c_eights c_gains = some v) : xV (j10_both) X 0 0 (hM c_thrown c_told c_read c_many c_eights c_gains c_notes c_seen c_turns c_drawn c_state c_tape c_taped c_size c_from c_next c_token c_value c_fault c_number c_fives c_isLeft c_wentTimes c_goes c_isLeftLaid c_game c_rows c_columns c_isFound c_bestValue c_bestBelow c_bestShare c_share c_matrix c_system c_shares c_allShares) 0 [(0, .ref 0), (1, .int x1)] [] := by
  unfold F10_both at hf
  refine xV_aload_n 1 rfl dX10_both_0 rfl 0 rfl ?_
  refine xV_iconst 2 rfl dX10_both_1 xk_i0 ?_
  refine xV_put (h' := (hM (0 : Int32) c_told c_read c_many c_eights c_gains c_notes c_seen c_turns c_drawn c_state c_tape c_taped c_size c_from c_next c_token c_value c_fault c_number c_fives c_isLeft c_wentTimes c_goes c_isLeftLaid c_game c_rows c_columns c_isFound c_bestValue c_bestBelow c_bestShare c_share c_matrix c_system c_shares c_allShares)) 5 rfl dX10_both_2 f10_1 rfl nf10_0 (fun _ => rfl) (fun _ => rfl) (Nat.le_of_ble_eq_true rfl) rfl ?_
  refine xV_iload_n 6 rfl dX10_both_5 rfl 1 rfl ?_
  refine xV_iconst 7 rfl dX10_both_6 xk_i0 ?_
  refine xV_iconst 8 rfl dX10_both_7 xk_i1 ?_
  obtain ⟨v8, hv8, hf⟩ := xb_s hf
  refine xV_st0 (rest := []) 11 rfl dX10_both_8 rfl (C10_within X.1.2.1 hv8) m10_within s10_within k10_7 rfl (Nat.le_of_ble_eq_true rfl) (Nat.le_of_ble_eq_true rfl) (Nat.le_of_ble_eq_true rfl) ⟨Nat.le_refl _, Nat.le_refl _⟩ ?_
  show xV (j10_both) X 0 0 (hM (0 : Int32) c_told c_read c_many c_eights c_gains c_notes c_seen c_turns c_drawn c_state c_tape c_taped c_size c_from c_next c_token c_value c_fault c_number c_fives c_isLeft c_wentTimes c_goes c_isLeftLaid c_game c_rows c_columns c_isFound c_bestValue c_bestBelow c_bestShare c_share c_matrix c_system c_shares c_allShares) 11 [(0, .ref 0), (1, .int x1)] [.int v8]
  refine xV_if_eq (tgt := 30) 14 rfl dX10_both_11 (by decide) (fun h11 => ?_) (fun h11 => ?_)
  · have hf := xif_t hf h11
    refine xV_bipush 32 rfl dX10_both_30 xk_bm100 ?_
    obtain rfl := Option.some.inj hf
    exact xV_iret hX dX10_both_32 rfl (Nat.zero_le _) (Nat.zero_le _)
  · have hf := xif_f hf h11
    refine xV_aload_n 15 rfl dX10_both_14 rfl 0 rfl ?_
    refine xV_iconst 16 rfl dX10_both_15 xk_i0 ?_
    obtain ⟨v16, hv16, hf⟩ := xb_s hf
    refine xV_same (rest := []) 19 rfl dX10_both_16 rfl (C10_planned X.1.2.1 hv16) m10_planned v10_planned k10_328 rfl rfl rfl rfl rfl (Nat.le_of_ble_eq_true rfl) (Nat.le_of_ble_eq_true rfl) (Nat.le_of_ble_eq_true rfl) ⟨Nat.le_refl _, Nat.le_refl _⟩ ?_
    show xV (j10_both) X 0 0 (hM (0 : Int32) c_told c_read c_many c_eights c_gains c_notes c_seen c_turns c_drawn c_state c_tape c_taped c_size c_from c_next c_token c_value c_fault c_number c_fives c_isLeft c_wentTimes c_goes c_isLeftLaid c_game c_rows c_columns c_isFound c_bestValue c_bestBelow c_bestShare c_share c_matrix c_system c_shares c_allShares) 19 [(0, .ref 0), (1, .int x1)] [.int v16]
    refine xV_if_eq (tgt := 30) 22 rfl dX10_both_19 (by decide) (fun h19 => ?_) (fun h19 => ?_)
    · have hf := xif_t hf h19
      refine xV_bipush 32 rfl dX10_both_30 xk_bm100 ?_
      obtain rfl := Option.some.inj hf
      exact xV_iret hX dX10_both_32 rfl (Nat.zero_le _) (Nat.zero_le _)
    · have hf := xif_f hf h19
      refine xV_aload_n 23 rfl dX10_both_22 rfl 0 rfl ?_
      refine xV_iconst 24 rfl dX10_both_23 xk_i1 ?_
      obtain ⟨v24, hv24, hf⟩ := xb_s hf
      refine xV_same (rest := []) 27 rfl dX10_both_24 rfl (C10_planned X.1.2.1 hv24) m10_planned v10_planned k10_328 rfl rfl rfl rfl rfl (Nat.le_of_ble_eq_true rfl) (Nat.le_of_ble_eq_true rfl) (Nat.le_of_ble_eq_true rfl) ⟨Nat.le_refl _, Nat.le_refl _⟩ ?_
      show xV (j10_both) X 0 0 (hM (0 : Int32) c_told c_read c_many c_eights c_gains c_notes c_seen c_turns c_drawn c_state c_tape c_taped c_size c_from c_next c_token c_value c_fault c_number c_fives c_isLeft c_wentTimes c_goes c_isLeftLaid c_game c_rows c_columns c_isFound c_bestValue c_bestBelow c_bestShare c_share c_matrix c_system c_shares c_allShares) 27 [(0, .ref 0), (1, .int x1)] [.int v24]
      refine xV_if_ne (tgt := 33) 30 rfl dX10_both_27 (by decide) (fun h27 => ?_) (fun h27 => ?_)
      · have hf := xif_f hf h27
        refine xV_lconst (v := 0) 34 rfl dX10_both_33 (by decide) ?_
        refine xV_lstore_n (L' := [(2, .long (0 : Int64)), (0, .ref 0), (1, .int x1)]) 35 rfl dX10_both_34 rfl (xlt rfl) rfl ?_
        refine xV_iconst 36 rfl dX10_both_35 xk_i0 ?_
        refine xV_istore (L' := [(4, .int (0 : Int32)), (2, .long (0 : Int64)), (0, .ref 0), (1, .int x1)]) 38 rfl dX10_both_36 (xlt rfl) rfl ?_
        refine xV_sub [2, 3, 1, 0] rfl ?_
        exact T10_both_b38 hX _ hf
      · have hf := xif_t hf h27
        refine xV_bipush 32 rfl dX10_both_30 xk_bm100 ?_
        obtain rfl := Option.some.inj hf
        exact xV_iret hX dX10_both_32 rfl (Nat.zero_le _) (Nat.zero_le _)
theorem C10_both (l : Launch) {z : Nat} {x1 : Int32} {c_thrown : Int32} {c_told : (Nat → Int32)} {c_many : (Nat → Int32)} {c_eights : (Nat → Int32)} {c_gains : (Nat → Int32)} {c_read : (Nat → Int32)} {c_notes : (Nat → Int32)} {c_seen : (Nat → Int32)} {c_turns : (Nat → Int32)} {c_drawn : (Nat → Int32)} {c_state : Int32} {c_tape : (Nat → Int32)} {c_taped : Int32} {c_size : Int32} {c_from : Int32} {c_next : Int32} {c_token : Int32} {c_value : Int32} {c_fault : Int32} {c_number : Int32} {c_fives : (Nat → Int32)} {c_isLeft : (Nat → Int32)} {c_wentTimes : Int32} {c_goes : (Nat → Int32)} {c_isLeftLaid : Int32} {c_game : (Nat → Int32)} {c_rows : Int32} {c_columns : Int32} {c_isFound : Int32} {c_bestValue : Int64} {c_bestBelow : Int64} {c_bestShare : (Nat → Int64)} {c_share : (Nat → Int64)} {c_matrix : (Nat → Int64)} {c_system : (Nat → Int64)} {c_shares : (Nat → Int32)} {c_allShares : Int32} {v : Int32 × Int32} (hf : F10_both z x1 c_thrown c_told c_many c_eights c_gains = some v) : xCt l yX10_both ((some .int)) j10_both [.ref 0, .int x1] (hM c_thrown c_told c_read c_many c_eights c_gains c_notes c_seen c_turns c_drawn c_state c_tape c_taped c_size c_from c_next c_token c_value c_fault c_number c_fives c_isLeft c_wentTimes c_goes c_isLeftLaid c_game c_rows c_columns c_isFound c_bestValue c_bestBelow c_bestShare c_share c_matrix c_system c_shares c_allShares) (some (.int v.1)) (hM v.2 c_told c_read c_many c_eights c_gains c_notes c_seen c_turns c_drawn c_state c_tape c_taped c_size c_from c_next c_token c_value c_fault c_number c_fives c_isLeft c_wentTimes c_goes c_isLeftLaid c_game c_rows c_columns c_isFound c_bestValue c_bestBelow c_bestShare c_share c_matrix c_system c_shares c_allShares) := xCt_of (by decide) rfl (Nat.le_of_ble_eq_true rfl) (fun _ hX => T10_both hX hf)
theorem m10_both : xMd yX10_both RX10 ((some .int)) j10_both 1 := ⟨List.mem_of_getElem? (i := 1181) (by decide +kernel), List.mem_of_getElem? (i := 5) (by decide +kernel), rfl, by decide +kernel⟩
theorem v10_both : xMv yX10_both RX10 := ⟨List.mem_of_getElem? (i := 1179) (by decide +kernel), List.mem_of_getElem? (i := 1180) (by decide +kernel)⟩
theorem dX10_mean_0 : decode cX10_mean 0 = .ok (.aload_n 0, 1) := by decide +kernel
theorem dX10_mean_1 : decode cX10_mean 1 = .ok (.iconst 0, 1) := by decide +kernel
theorem dX10_mean_2 : decode cX10_mean 2 = .ok (.putfield 1, 3) := by decide +kernel
theorem dX10_mean_5 : decode cX10_mean 5 = .ok (.aload_n 0, 1) := by decide +kernel
theorem dX10_mean_6 : decode cX10_mean 6 = .ok (.iload_n 1, 1) := by decide +kernel
theorem dX10_mean_7 : decode cX10_mean 7 = .ok (.invokevirtual 349, 3) := by decide +kernel
theorem dX10_mean_10 : decode cX10_mean 10 = .ok (.ifCond .eq 28, 3) := by decide +kernel
theorem dX10_mean_13 : decode cX10_mean 13 = .ok (.iload_n 2, 1) := by decide +kernel
theorem dX10_mean_14 : decode cX10_mean 14 = .ok (.iconst 0, 1) := by decide +kernel
theorem dX10_mean_15 : decode cX10_mean 15 = .ok (.aload_n 0, 1) := by decide +kernel
theorem dX10_mean_16 : decode cX10_mean 16 = .ok (.getfield 17, 3) := by decide +kernel
theorem dX10_mean_19 : decode cX10_mean 19 = .ok (.iconst 0, 1) := by decide +kernel
theorem dX10_mean_20 : decode cX10_mean 20 = .ok (.iaload, 1) := by decide +kernel
theorem dX10_mean_21 : decode cX10_mean 21 = .ok (.iconst 1, 1) := by decide +kernel
theorem dX10_mean_22 : decode cX10_mean 22 = .ok (.isub, 1) := by decide +kernel
theorem dX10_mean_23 : decode cX10_mean 23 = .ok (.invokestatic 7, 3) := by decide +kernel
theorem dX10_mean_26 : decode cX10_mean 26 = .ok (.ifCond .eq 12, 3) := by decide +kernel
theorem dX10_mean_29 : decode cX10_mean 29 = .ok (.iload_n 3, 1) := by decide +kernel
theorem dX10_mean_30 : decode cX10_mean 30 = .ok (.iconst 0, 1) := by decide +kernel
theorem dX10_mean_31 : decode cX10_mean 31 = .ok (.iconst 1, 1) := by decide +kernel
theorem dX10_mean_32 : decode cX10_mean 32 = .ok (.invokestatic 7, 3) := by decide +kernel
theorem dX10_mean_35 : decode cX10_mean 35 = .ok (.ifCond .ne 5, 3) := by decide +kernel
theorem dX10_mean_38 : decode cX10_mean 38 = .ok (.iconst (-1), 1) := by decide +kernel
theorem dX10_mean_39 : decode cX10_mean 39 = .ok (.ireturn, 1) := by decide +kernel
theorem dX10_mean_40 : decode cX10_mean 40 = .ok (.iconst 0, 1) := by decide +kernel
theorem dX10_mean_41 : decode cX10_mean 41 = .ok (.istore 4, 2) := by decide +kernel
theorem dX10_mean_43 : decode cX10_mean 43 = .ok (.iconst 0, 1) := by decide +kernel
theorem dX10_mean_44 : decode cX10_mean 44 = .ok (.istore 5, 2) := by decide +kernel
theorem dX10_mean_46 : decode cX10_mean 46 = .ok (.iload 5, 2) := by decide +kernel
theorem dX10_mean_48 : decode cX10_mean 48 = .ok (.aload_n 0, 1) := by decide +kernel
theorem dX10_mean_49 : decode cX10_mean 49 = .ok (.iload_n 1, 1) := by decide +kernel
theorem dX10_mean_50 : decode cX10_mean 50 = .ok (.invokevirtual 328, 3) := by decide +kernel
theorem dX10_mean_53 : decode cX10_mean 53 = .ok (.if_icmp .ge 35, 3) := by decide +kernel
theorem dX10_mean_56 : decode cX10_mean 56 = .ok (.iload 4, 2) := by decide +kernel
theorem dX10_mean_58 : decode cX10_mean 58 = .ok (.aload_n 0, 1) := by decide +kernel
theorem dX10_mean_59 : decode cX10_mean 59 = .ok (.iload_n 1, 1) := by decide +kernel
theorem dX10_mean_60 : decode cX10_mean 60 = .ok (.iload 5, 2) := by decide +kernel
theorem dX10_mean_62 : decode cX10_mean 62 = .ok (.invokevirtual 331, 3) := by decide +kernel
theorem dX10_mean_65 : decode cX10_mean 65 = .ok (.aload_n 0, 1) := by decide +kernel
theorem dX10_mean_66 : decode cX10_mean 66 = .ok (.iload_n 1, 1) := by decide +kernel
theorem dX10_mean_67 : decode cX10_mean 67 = .ok (.aload_n 0, 1) := by decide +kernel
theorem dX10_mean_68 : decode cX10_mean 68 = .ok (.iload_n 1, 1) := by decide +kernel
theorem dX10_mean_69 : decode cX10_mean 69 = .ok (.iload 5, 2) := by decide +kernel
theorem dX10_mean_71 : decode cX10_mean 71 = .ok (.invokevirtual 334, 3) := by decide +kernel
theorem dX10_mean_74 : decode cX10_mean 74 = .ok (.iload_n 2, 1) := by decide +kernel
theorem dX10_mean_75 : decode cX10_mean 75 = .ok (.invokevirtual 90, 3) := by decide +kernel
theorem dX10_mean_78 : decode cX10_mean 78 = .ok (.imul, 1) := by decide +kernel
theorem dX10_mean_79 : decode cX10_mean 79 = .ok (.iadd, 1) := by decide +kernel
theorem dX10_mean_80 : decode cX10_mean 80 = .ok (.istore 4, 2) := by decide +kernel
theorem dX10_mean_82 : decode cX10_mean 82 = .ok (.iinc 5 1, 3) := by decide +kernel
theorem dX10_mean_85 : decode cX10_mean 85 = .ok (.goto (-39), 3) := by decide +kernel
theorem dX10_mean_88 : decode cX10_mean 88 = .ok (.iload 4, 2) := by decide +kernel
theorem dX10_mean_90 : decode cX10_mean 90 = .ok (.i2l, 1) := by decide +kernel
theorem dX10_mean_91 : decode cX10_mean 91 = .ok (.aload_n 0, 1) := by decide +kernel
theorem dX10_mean_92 : decode cX10_mean 92 = .ok (.iload_n 1, 1) := by decide +kernel
theorem dX10_mean_93 : decode cX10_mean 93 = .ok (.invokevirtual 340, 3) := by decide +kernel
theorem dX10_mean_96 : decode cX10_mean 96 = .ok (.i2l, 1) := by decide +kernel
theorem dX10_mean_97 : decode cX10_mean 97 = .ok (.iload_n 3, 1) := by decide +kernel
theorem dX10_mean_98 : decode cX10_mean 98 = .ok (.invokestatic 324, 3) := by decide +kernel
theorem dX10_mean_101 : decode cX10_mean 101 = .ok (.ireturn, 1) := by decide +kernel
abbrev j10_mean : xJ := (cX10_mean, 6, RX10, 4, 0, 0)
def F10_mean_b88 (z : Nat) (x1 : Int32) (x3 : Int32) (x4 : Int32) (c_thrown : Int32) (c_told : (Nat → Int32)) (c_many : (Nat → Int32)) (c_eights : (Nat → Int32)) : Option (Int32 × Int32) :=
  (F10_weights z x1 c_told).bind (fun v93 => (F10_term z (x4).toInt64 (v93).toInt64 x3).bind (fun v98 => some (v98, c_thrown)))
theorem T10_mean_b88 {X : xX} {c_read : (Nat → Int32)} {c_gains : (Nat → Int32)} {c_notes : (Nat → Int32)} {c_seen : (Nat → Int32)} {c_turns : (Nat → Int32)} {c_drawn : (Nat → Int32)} {c_state : Int32} {c_tape : (Nat → Int32)} {c_taped : Int32} {c_size : Int32} {c_from : Int32} {c_next : Int32} {c_token : Int32} {c_value : Int32} {c_fault : Int32} {c_number : Int32} {c_fives : (Nat → Int32)} {c_isLeft : (Nat → Int32)} {c_wentTimes : Int32} {c_goes : (Nat → Int32)} {c_isLeftLaid : Int32} {c_game : (Nat → Int32)} {c_rows : Int32} {c_columns : Int32} {c_isFound : Int32} {c_bestValue : Int64} {c_bestBelow : Int64} {c_bestShare : (Nat → Int64)} {c_share : (Nat → Int64)} {c_matrix : (Nat → Int64)} {c_system : (Nat → Int64)} {c_shares : (Nat → Int32)} {c_allShares : Int32} {x1 : Int32} {x3 : Int32} {x4 : Int32} {c_thrown : Int32} {c_told : (Nat → Int32)} {c_many : (Nat → Int32)} {c_eights : (Nat → Int32)} {z : Nat} {v : Int32 × Int32} (hX : xIs (j10_mean) X ((some .int)) (some (.int v.1)) (hM v.2 c_told c_read c_many c_eights c_gains c_notes c_seen c_turns c_drawn c_state c_tape c_taped c_size c_from c_next c_token c_value c_fault c_number c_fives c_isLeft c_wentTimes c_goes c_isLeftLaid c_game c_rows c_columns c_isFound c_bestValue c_bestBelow c_bestShare c_share c_matrix c_system c_shares c_allShares)) (hf : F10_mean_b88 z x1 x3 x4 c_thrown c_told c_many c_eights = some v) : xV (j10_mean) X 0 0 (hM c_thrown c_told c_read c_many c_eights c_gains c_notes c_seen c_turns c_drawn c_state c_tape c_taped c_size c_from c_next c_token c_value c_fault c_number c_fives c_isLeft c_wentTimes c_goes c_isLeftLaid c_game c_rows c_columns c_isFound c_bestValue c_bestBelow c_bestShare c_share c_matrix c_system c_shares c_allShares) 88 [(0, .ref 0), (1, .int x1), (3, .int x3), (4, .int x4)] [] := by
  unfold F10_mean_b88 at hf
  refine xV_iload 90 rfl dX10_mean_88 3 rfl ?_
  refine xV_i2l 91 rfl dX10_mean_90 ?_
  refine xV_aload_n 92 rfl dX10_mean_91 rfl 0 rfl ?_
  refine xV_iload_n 93 rfl dX10_mean_92 rfl 1 rfl ?_
  obtain ⟨v93, hv93, hf⟩ := xb_s hf
  refine xV_same (rest := [.long (x4).toInt64]) 96 rfl dX10_mean_93 rfl (C10_weights X.1.2.1 hv93) m10_weights v10_weights k10_340 rfl rfl rfl rfl rfl (Nat.le_of_ble_eq_true rfl) (Nat.le_of_ble_eq_true rfl) (Nat.le_of_ble_eq_true rfl) ⟨Nat.le_refl _, Nat.le_refl _⟩ ?_
  show xV (j10_mean) X 0 0 (hM c_thrown c_told c_read c_many c_eights c_gains c_notes c_seen c_turns c_drawn c_state c_tape c_taped c_size c_from c_next c_token c_value c_fault c_number c_fives c_isLeft c_wentTimes c_goes c_isLeftLaid c_game c_rows c_columns c_isFound c_bestValue c_bestBelow c_bestShare c_share c_matrix c_system c_shares c_allShares) 96 [(0, .ref 0), (1, .int x1), (3, .int x3), (4, .int x4)] [.int v93, .long (x4).toInt64]
  refine xV_i2l 97 rfl dX10_mean_96 ?_
  refine xV_iload_n 98 rfl dX10_mean_97 rfl 2 rfl ?_
  obtain ⟨v98, hv98, hf⟩ := xb_s hf
  refine xV_st0 (rest := []) 101 rfl dX10_mean_98 rfl (C10_term X.1.2.1 hv98) m10_term s10_term k10_324 rfl (Nat.le_of_ble_eq_true rfl) (Nat.le_of_ble_eq_true rfl) (Nat.le_of_ble_eq_true rfl) ⟨Nat.le_refl _, Nat.le_refl _⟩ ?_
  show xV (j10_mean) X 0 0 (hM c_thrown c_told c_read c_many c_eights c_gains c_notes c_seen c_turns c_drawn c_state c_tape c_taped c_size c_from c_next c_token c_value c_fault c_number c_fives c_isLeft c_wentTimes c_goes c_isLeftLaid c_game c_rows c_columns c_isFound c_bestValue c_bestBelow c_bestShare c_share c_matrix c_system c_shares c_allShares) 101 [(0, .ref 0), (1, .int x1), (3, .int x3), (4, .int x4)] [.int v98]
  obtain rfl := Option.some.inj hf
  exact xV_iret hX dX10_mean_101 rfl (Nat.zero_le _) (Nat.zero_le _)
def F10_mean_b46 (z : Nat) (w : Nat) (x1 : Int32) (x2 : Int32) (x3 : Int32) (x4 : Int32) (x5 : Int32) (c_thrown : Int32) (c_told : (Nat → Int32)) (c_many : (Nat → Int32)) (c_eights : (Nat → Int32)) : Option (Int32 × Int32) := match w with
  | 0 => none
  | w + 1 => (F10_planned x1 c_told).bind (fun v50 => if v50 ≤ x5 then (F10_mean_b88 z x1 x3 x4 c_thrown c_told c_many c_eights) else ((F10_weightAt x1 x5 c_told).bind (fun v62 => (F10_planAt z x1 x5 c_told c_many c_eights).bind (fun v71 => (F10_on x1 v71 x2 c_told c_eights).bind (fun v75 => F10_mean_b46 z w x1 x2 x3 (x4 + (v62 * v75)) (x5 + (1 : Int32)) c_thrown c_told c_many c_eights)))))
theorem T10_mean_b46 {X : xX} {c_told : (Nat → Int32)} {c_read : (Nat → Int32)} {c_many : (Nat → Int32)} {c_eights : (Nat → Int32)} {c_gains : (Nat → Int32)} {c_notes : (Nat → Int32)} {c_seen : (Nat → Int32)} {c_turns : (Nat → Int32)} {c_drawn : (Nat → Int32)} {c_state : Int32} {c_tape : (Nat → Int32)} {c_taped : Int32} {c_size : Int32} {c_from : Int32} {c_next : Int32} {c_token : Int32} {c_value : Int32} {c_fault : Int32} {c_number : Int32} {c_fives : (Nat → Int32)} {c_isLeft : (Nat → Int32)} {c_wentTimes : Int32} {c_goes : (Nat → Int32)} {c_isLeftLaid : Int32} {c_game : (Nat → Int32)} {c_rows : Int32} {c_columns : Int32} {c_isFound : Int32} {c_bestValue : Int64} {c_bestBelow : Int64} {c_bestShare : (Nat → Int64)} {c_share : (Nat → Int64)} {c_matrix : (Nat → Int64)} {c_system : (Nat → Int64)} {c_shares : (Nat → Int32)} {c_allShares : Int32} {z : Nat} {v : Int32 × Int32} (hX : xIs (j10_mean) X ((some .int)) (some (.int v.1)) (hM v.2 c_told c_read c_many c_eights c_gains c_notes c_seen c_turns c_drawn c_state c_tape c_taped c_size c_from c_next c_token c_value c_fault c_number c_fives c_isLeft c_wentTimes c_goes c_isLeftLaid c_game c_rows c_columns c_isFound c_bestValue c_bestBelow c_bestShare c_share c_matrix c_system c_shares c_allShares)) : ∀ (w : Nat) {x1 : Int32} {x2 : Int32} {x3 : Int32} {x4 : Int32} {x5 : Int32} {c_thrown : Int32}, F10_mean_b46 z w x1 x2 x3 x4 x5 c_thrown c_told c_many c_eights = some v → xV (j10_mean) X 0 0 (hM c_thrown c_told c_read c_many c_eights c_gains c_notes c_seen c_turns c_drawn c_state c_tape c_taped c_size c_from c_next c_token c_value c_fault c_number c_fives c_isLeft c_wentTimes c_goes c_isLeftLaid c_game c_rows c_columns c_isFound c_bestValue c_bestBelow c_bestShare c_share c_matrix c_system c_shares c_allShares) 46 [(0, .ref 0), (1, .int x1), (2, .int x2), (3, .int x3), (4, .int x4), (5, .int x5)] [] := by
  intro w
  induction w with
  | zero => intro x1 x2 x3 x4 x5 c_thrown hf; cases hf
  | succ w ih =>
    intro x1 x2 x3 x4 x5 c_thrown hf
    unfold F10_mean_b46 at hf
    refine xV_iload 48 rfl dX10_mean_46 5 rfl ?_
    refine xV_aload_n 49 rfl dX10_mean_48 rfl 0 rfl ?_
    refine xV_iload_n 50 rfl dX10_mean_49 rfl 1 rfl ?_
    obtain ⟨v50, hv50, hf⟩ := xb_s hf
    refine xV_same (rest := [.int x5]) 53 rfl dX10_mean_50 rfl (C10_planned X.1.2.1 hv50) m10_planned v10_planned k10_328 rfl rfl rfl rfl rfl (Nat.le_of_ble_eq_true rfl) (Nat.le_of_ble_eq_true rfl) (Nat.le_of_ble_eq_true rfl) ⟨Nat.le_refl _, Nat.le_refl _⟩ ?_
    show xV (j10_mean) X 0 0 (hM c_thrown c_told c_read c_many c_eights c_gains c_notes c_seen c_turns c_drawn c_state c_tape c_taped c_size c_from c_next c_token c_value c_fault c_number c_fives c_isLeft c_wentTimes c_goes c_isLeftLaid c_game c_rows c_columns c_isFound c_bestValue c_bestBelow c_bestShare c_share c_matrix c_system c_shares c_allShares) 53 [(0, .ref 0), (1, .int x1), (2, .int x2), (3, .int x3), (4, .int x4), (5, .int x5)] [.int v50, .int x5]
    refine xV_icmp_ge (tgt := 88) 56 rfl dX10_mean_53 (by decide) (fun h53 => ?_) (fun h53 => ?_)
    · have hf := xif_t hf h53
      refine xV_sub [0, 1, 3, 4] rfl ?_
      exact T10_mean_b88 hX hf
    · have hf := xif_f hf h53
      refine xV_iload 58 rfl dX10_mean_56 4 rfl ?_
      refine xV_aload_n 59 rfl dX10_mean_58 rfl 0 rfl ?_
      refine xV_iload_n 60 rfl dX10_mean_59 rfl 1 rfl ?_
      refine xV_iload 62 rfl dX10_mean_60 5 rfl ?_
      obtain ⟨v62, hv62, hf⟩ := xb_s hf
      refine xV_same (rest := [.int x4]) 65 rfl dX10_mean_62 rfl (C10_weightAt X.1.2.1 hv62) m10_weightAt v10_weightAt k10_331 rfl rfl rfl rfl rfl (Nat.le_of_ble_eq_true rfl) (Nat.le_of_ble_eq_true rfl) (Nat.le_of_ble_eq_true rfl) ⟨Nat.le_refl _, Nat.le_refl _⟩ ?_
      show xV (j10_mean) X 0 0 (hM c_thrown c_told c_read c_many c_eights c_gains c_notes c_seen c_turns c_drawn c_state c_tape c_taped c_size c_from c_next c_token c_value c_fault c_number c_fives c_isLeft c_wentTimes c_goes c_isLeftLaid c_game c_rows c_columns c_isFound c_bestValue c_bestBelow c_bestShare c_share c_matrix c_system c_shares c_allShares) 65 [(0, .ref 0), (1, .int x1), (2, .int x2), (3, .int x3), (4, .int x4), (5, .int x5)] [.int v62, .int x4]
      refine xV_aload_n 66 rfl dX10_mean_65 rfl 0 rfl ?_
      refine xV_iload_n 67 rfl dX10_mean_66 rfl 1 rfl ?_
      refine xV_aload_n 68 rfl dX10_mean_67 rfl 0 rfl ?_
      refine xV_iload_n 69 rfl dX10_mean_68 rfl 1 rfl ?_
      refine xV_iload 71 rfl dX10_mean_69 5 rfl ?_
      obtain ⟨v71, hv71, hf⟩ := xb_s hf
      refine xV_same (rest := [.int x1, .ref 0, .int v62, .int x4]) 74 rfl dX10_mean_71 rfl (C10_planAt X.1.2.1 hv71) m10_planAt v10_planAt k10_334 rfl rfl rfl rfl rfl (Nat.le_of_ble_eq_true rfl) (Nat.le_of_ble_eq_true rfl) (Nat.le_of_ble_eq_true rfl) ⟨Nat.le_refl _, Nat.le_refl _⟩ ?_
      show xV (j10_mean) X 0 0 (hM c_thrown c_told c_read c_many c_eights c_gains c_notes c_seen c_turns c_drawn c_state c_tape c_taped c_size c_from c_next c_token c_value c_fault c_number c_fives c_isLeft c_wentTimes c_goes c_isLeftLaid c_game c_rows c_columns c_isFound c_bestValue c_bestBelow c_bestShare c_share c_matrix c_system c_shares c_allShares) 74 [(0, .ref 0), (1, .int x1), (2, .int x2), (3, .int x3), (4, .int x4), (5, .int x5)] [.int v71, .int x1, .ref 0, .int v62, .int x4]
      refine xV_iload_n 75 rfl dX10_mean_74 rfl 2 rfl ?_
      obtain ⟨v75, hv75, hf⟩ := xb_s hf
      refine xV_same (rest := [.int v62, .int x4]) 78 rfl dX10_mean_75 rfl (C10_on X.1.2.1 hv75) m10_on v10_on k10_90 rfl rfl rfl rfl rfl (Nat.le_of_ble_eq_true rfl) (Nat.le_of_ble_eq_true rfl) (Nat.le_of_ble_eq_true rfl) ⟨Nat.le_refl _, Nat.le_refl _⟩ ?_
      show xV (j10_mean) X 0 0 (hM c_thrown c_told c_read c_many c_eights c_gains c_notes c_seen c_turns c_drawn c_state c_tape c_taped c_size c_from c_next c_token c_value c_fault c_number c_fives c_isLeft c_wentTimes c_goes c_isLeftLaid c_game c_rows c_columns c_isFound c_bestValue c_bestBelow c_bestShare c_share c_matrix c_system c_shares c_allShares) 78 [(0, .ref 0), (1, .int x1), (2, .int x2), (3, .int x3), (4, .int x4), (5, .int x5)] [.int v75, .int v62, .int x4]
      refine xV_imul 79 rfl dX10_mean_78 ?_
      refine xV_iadd 80 rfl dX10_mean_79 ?_
      refine xV_istore (L' := [(4, .int (x4 + (v62 * v75))), (0, .ref 0), (1, .int x1), (2, .int x2), (3, .int x3), (5, .int x5)]) 82 rfl dX10_mean_80 (xlt rfl) rfl ?_
      refine xV_iinc (L' := [(5, .int (x5 + (1 : Int32))), (4, .int (x4 + (v62 * v75))), (0, .ref 0), (1, .int x1), (2, .int x2), (3, .int x3)]) 85 rfl dX10_mean_82 5 rfl (xk_inc xk_i1) (xlt rfl) rfl ?_
      refine xV_goto (tgt := 46) dX10_mean_85 (by decide) ?_
      refine xV_sub [2, 3, 4, 5, 1, 0] rfl ?_
      exact ih hf
def F10_mean (z : Nat) (x1 : Int32) (x2 : Int32) (x3 : Int32) (c_thrown : Int32) (c_told : (Nat → Int32)) (c_many : (Nat → Int32)) (c_eights : (Nat → Int32)) : Option (Int32 × Int32) :=
  (F10_hasPlan x1 c_told).bind (fun v7 => if v7 = 0 then (some ((-1 : Int32), (0 : Int32))) else ((F10_within x2 (0 : Int32) ((c_told 0) - (1 : Int32))).bind (fun v23 => if v23 = 0 then (some ((-1 : Int32), (0 : Int32))) else ((F10_within x3 (0 : Int32) (1 : Int32)).bind (fun v32 => if v32 = 0 then (some ((-1 : Int32), (0 : Int32))) else (F10_mean_b46 z z x1 x2 x3 (0 : Int32) (0 : Int32) (0 : Int32) c_told c_many c_eights))))))
theorem T10_mean {X : xX} {z : Nat} {x1 : Int32} {x2 : Int32} {x3 : Int32} {c_thrown : Int32} {c_told : (Nat → Int32)} {c_many : (Nat → Int32)} {c_eights : (Nat → Int32)} {c_read : (Nat → Int32)} {c_gains : (Nat → Int32)} {c_notes : (Nat → Int32)} {c_seen : (Nat → Int32)} {c_turns : (Nat → Int32)} {c_drawn : (Nat → Int32)} {c_state : Int32} {c_tape : (Nat → Int32)} {c_taped : Int32} {c_size : Int32} {c_from : Int32} {c_next : Int32} {c_token : Int32} {c_value : Int32} {c_fault : Int32} {c_number : Int32} {c_fives : (Nat → Int32)} {c_isLeft : (Nat → Int32)} {c_wentTimes : Int32} {c_goes : (Nat → Int32)} {c_isLeftLaid : Int32} {c_game : (Nat → Int32)} {c_rows : Int32} {c_columns : Int32} {c_isFound : Int32} {c_bestValue : Int64} {c_bestBelow : Int64} {c_bestShare : (Nat → Int64)} {c_share : (Nat → Int64)} {c_matrix : (Nat → Int64)} {c_system : (Nat → Int64)} {c_shares : (Nat → Int32)} {c_allShares : Int32} {v : Int32 × Int32} (hX : xIs (j10_mean) X ((some .int)) (some (.int v.1)) (hM v.2 c_told c_read c_many c_eights c_gains c_notes c_seen c_turns c_drawn c_state c_tape c_taped c_size c_from c_next c_token c_value c_fault c_number c_fives c_isLeft c_wentTimes c_goes c_isLeftLaid c_game c_rows c_columns c_isFound c_bestValue c_bestBelow c_bestShare c_share c_matrix c_system c_shares c_allShares)) (hf : F10_mean z x1 x2 x3 c_thrown c_told c_many c_eights = some v) : xV (j10_mean) X 0 0 (hM c_thrown c_told c_read c_many c_eights c_gains c_notes c_seen c_turns c_drawn c_state c_tape c_taped c_size c_from c_next c_token c_value c_fault c_number c_fives c_isLeft c_wentTimes c_goes c_isLeftLaid c_game c_rows c_columns c_isFound c_bestValue c_bestBelow c_bestShare c_share c_matrix c_system c_shares c_allShares) 0 [(0, .ref 0), (1, .int x1), (2, .int x2), (3, .int x3)] [] := by
  unfold F10_mean at hf
  refine xV_aload_n 1 rfl dX10_mean_0 rfl 0 rfl ?_
  refine xV_iconst 2 rfl dX10_mean_1 xk_i0 ?_
  refine xV_put (h' := (hM (0 : Int32) c_told c_read c_many c_eights c_gains c_notes c_seen c_turns c_drawn c_state c_tape c_taped c_size c_from c_next c_token c_value c_fault c_number c_fives c_isLeft c_wentTimes c_goes c_isLeftLaid c_game c_rows c_columns c_isFound c_bestValue c_bestBelow c_bestShare c_share c_matrix c_system c_shares c_allShares)) 5 rfl dX10_mean_2 f10_1 rfl nf10_0 (fun _ => rfl) (fun _ => rfl) (Nat.le_of_ble_eq_true rfl) rfl ?_
  refine xV_aload_n 6 rfl dX10_mean_5 rfl 0 rfl ?_
  refine xV_iload_n 7 rfl dX10_mean_6 rfl 1 rfl ?_
  obtain ⟨v7, hv7, hf⟩ := xb_s hf
  refine xV_same (rest := []) 10 rfl dX10_mean_7 rfl (C10_hasPlan X.1.2.1 hv7) m10_hasPlan v10_hasPlan k10_349 rfl rfl rfl rfl rfl (Nat.le_of_ble_eq_true rfl) (Nat.le_of_ble_eq_true rfl) (Nat.le_of_ble_eq_true rfl) ⟨Nat.le_refl _, Nat.le_refl _⟩ ?_
  show xV (j10_mean) X 0 0 (hM (0 : Int32) c_told c_read c_many c_eights c_gains c_notes c_seen c_turns c_drawn c_state c_tape c_taped c_size c_from c_next c_token c_value c_fault c_number c_fives c_isLeft c_wentTimes c_goes c_isLeftLaid c_game c_rows c_columns c_isFound c_bestValue c_bestBelow c_bestShare c_share c_matrix c_system c_shares c_allShares) 10 [(0, .ref 0), (1, .int x1), (2, .int x2), (3, .int x3)] [.int v7]
  refine xV_if_eq (tgt := 38) 13 rfl dX10_mean_10 (by decide) (fun h10 => ?_) (fun h10 => ?_)
  · have hf := xif_t hf h10
    refine xV_iconst 39 rfl dX10_mean_38 xk_im1 ?_
    obtain rfl := Option.some.inj hf
    exact xV_iret hX dX10_mean_39 rfl (Nat.zero_le _) (Nat.zero_le _)
  · have hf := xif_f hf h10
    refine xV_iload_n 14 rfl dX10_mean_13 rfl 2 rfl ?_
    refine xV_iconst 15 rfl dX10_mean_14 xk_i0 ?_
    refine xV_aload_n 16 rfl dX10_mean_15 rfl 0 rfl ?_
    refine xV_get (v := .ref 1) 19 rfl dX10_mean_16 f10_17 rfl rfl ?_
    refine xV_iconst 20 rfl dX10_mean_19 xk_i0 ?_
    refine xV_iaload 21 rfl dX10_mean_20 rfl xk_in0_56 xk_j0 ?_
    refine xV_iconst 22 rfl dX10_mean_21 xk_i1 ?_
    refine xV_isub 23 rfl dX10_mean_22 ?_
    obtain ⟨v23, hv23, hf⟩ := xb_s hf
    refine xV_st0 (rest := []) 26 rfl dX10_mean_23 rfl (C10_within X.1.2.1 hv23) m10_within s10_within k10_7 rfl (Nat.le_of_ble_eq_true rfl) (Nat.le_of_ble_eq_true rfl) (Nat.le_of_ble_eq_true rfl) ⟨Nat.le_refl _, Nat.le_refl _⟩ ?_
    show xV (j10_mean) X 0 0 (hM (0 : Int32) c_told c_read c_many c_eights c_gains c_notes c_seen c_turns c_drawn c_state c_tape c_taped c_size c_from c_next c_token c_value c_fault c_number c_fives c_isLeft c_wentTimes c_goes c_isLeftLaid c_game c_rows c_columns c_isFound c_bestValue c_bestBelow c_bestShare c_share c_matrix c_system c_shares c_allShares) 26 [(0, .ref 0), (1, .int x1), (2, .int x2), (3, .int x3)] [.int v23]
    refine xV_if_eq (tgt := 38) 29 rfl dX10_mean_26 (by decide) (fun h26 => ?_) (fun h26 => ?_)
    · have hf := xif_t hf h26
      refine xV_iconst 39 rfl dX10_mean_38 xk_im1 ?_
      obtain rfl := Option.some.inj hf
      exact xV_iret hX dX10_mean_39 rfl (Nat.zero_le _) (Nat.zero_le _)
    · have hf := xif_f hf h26
      refine xV_iload_n 30 rfl dX10_mean_29 rfl 3 rfl ?_
      refine xV_iconst 31 rfl dX10_mean_30 xk_i0 ?_
      refine xV_iconst 32 rfl dX10_mean_31 xk_i1 ?_
      obtain ⟨v32, hv32, hf⟩ := xb_s hf
      refine xV_st0 (rest := []) 35 rfl dX10_mean_32 rfl (C10_within X.1.2.1 hv32) m10_within s10_within k10_7 rfl (Nat.le_of_ble_eq_true rfl) (Nat.le_of_ble_eq_true rfl) (Nat.le_of_ble_eq_true rfl) ⟨Nat.le_refl _, Nat.le_refl _⟩ ?_
      show xV (j10_mean) X 0 0 (hM (0 : Int32) c_told c_read c_many c_eights c_gains c_notes c_seen c_turns c_drawn c_state c_tape c_taped c_size c_from c_next c_token c_value c_fault c_number c_fives c_isLeft c_wentTimes c_goes c_isLeftLaid c_game c_rows c_columns c_isFound c_bestValue c_bestBelow c_bestShare c_share c_matrix c_system c_shares c_allShares) 35 [(0, .ref 0), (1, .int x1), (2, .int x2), (3, .int x3)] [.int v32]
      refine xV_if_ne (tgt := 40) 38 rfl dX10_mean_35 (by decide) (fun h35 => ?_) (fun h35 => ?_)
      · have hf := xif_f hf h35
        refine xV_iconst 41 rfl dX10_mean_40 xk_i0 ?_
        refine xV_istore (L' := [(4, .int (0 : Int32)), (0, .ref 0), (1, .int x1), (2, .int x2), (3, .int x3)]) 43 rfl dX10_mean_41 (xlt rfl) rfl ?_
        refine xV_iconst 44 rfl dX10_mean_43 xk_i0 ?_
        refine xV_istore (L' := [(5, .int (0 : Int32)), (4, .int (0 : Int32)), (0, .ref 0), (1, .int x1), (2, .int x2), (3, .int x3)]) 46 rfl dX10_mean_44 (xlt rfl) rfl ?_
        refine xV_sub [2, 3, 4, 5, 1, 0] rfl ?_
        exact T10_mean_b46 hX _ hf
      · have hf := xif_t hf h35
        refine xV_iconst 39 rfl dX10_mean_38 xk_im1 ?_
        obtain rfl := Option.some.inj hf
        exact xV_iret hX dX10_mean_39 rfl (Nat.zero_le _) (Nat.zero_le _)
theorem C10_mean (l : Launch) {z : Nat} {x1 : Int32} {x2 : Int32} {x3 : Int32} {c_thrown : Int32} {c_told : (Nat → Int32)} {c_many : (Nat → Int32)} {c_eights : (Nat → Int32)} {c_read : (Nat → Int32)} {c_gains : (Nat → Int32)} {c_notes : (Nat → Int32)} {c_seen : (Nat → Int32)} {c_turns : (Nat → Int32)} {c_drawn : (Nat → Int32)} {c_state : Int32} {c_tape : (Nat → Int32)} {c_taped : Int32} {c_size : Int32} {c_from : Int32} {c_next : Int32} {c_token : Int32} {c_value : Int32} {c_fault : Int32} {c_number : Int32} {c_fives : (Nat → Int32)} {c_isLeft : (Nat → Int32)} {c_wentTimes : Int32} {c_goes : (Nat → Int32)} {c_isLeftLaid : Int32} {c_game : (Nat → Int32)} {c_rows : Int32} {c_columns : Int32} {c_isFound : Int32} {c_bestValue : Int64} {c_bestBelow : Int64} {c_bestShare : (Nat → Int64)} {c_share : (Nat → Int64)} {c_matrix : (Nat → Int64)} {c_system : (Nat → Int64)} {c_shares : (Nat → Int32)} {c_allShares : Int32} {v : Int32 × Int32} (hf : F10_mean z x1 x2 x3 c_thrown c_told c_many c_eights = some v) : xCt l yX10_mean ((some .int)) j10_mean [.ref 0, .int x1, .int x2, .int x3] (hM c_thrown c_told c_read c_many c_eights c_gains c_notes c_seen c_turns c_drawn c_state c_tape c_taped c_size c_from c_next c_token c_value c_fault c_number c_fives c_isLeft c_wentTimes c_goes c_isLeftLaid c_game c_rows c_columns c_isFound c_bestValue c_bestBelow c_bestShare c_share c_matrix c_system c_shares c_allShares) (some (.int v.1)) (hM v.2 c_told c_read c_many c_eights c_gains c_notes c_seen c_turns c_drawn c_state c_tape c_taped c_size c_from c_next c_token c_value c_fault c_number c_fives c_isLeft c_wentTimes c_goes c_isLeftLaid c_game c_rows c_columns c_isFound c_bestValue c_bestBelow c_bestShare c_share c_matrix c_system c_shares c_allShares) := xCt_of (by decide) rfl (Nat.le_of_ble_eq_true rfl) (fun _ hX => T10_mean hX hf)
theorem m10_mean : xMd yX10_mean RX10 ((some .int)) j10_mean 3 := ⟨List.mem_of_getElem? (i := 1190) (by decide +kernel), List.mem_of_getElem? (i := 5) (by decide +kernel), rfl, by decide +kernel⟩
theorem v10_mean : xMv yX10_mean RX10 := ⟨List.mem_of_getElem? (i := 1188) (by decide +kernel), List.mem_of_getElem? (i := 1189) (by decide +kernel)⟩
theorem f10_363 : xFl RX10 363 10 10 := ⟨_, rfl, by decide, List.mem_of_getElem? (i := 1200) (by decide +kernel)⟩
theorem nf10_10 : ∀ q : vw_C, vwCl[10]? = some q → (q.2.1 10).2.2.2 = false := fun q e => by cases e; rfl
theorem dX10_state_0 : decode cX10_state 0 = .ok (.aload_n 0, 1) := by decide +kernel
theorem dX10_state_1 : decode cX10_state 1 = .ok (.iconst 0, 1) := by decide +kernel
theorem dX10_state_2 : decode cX10_state 2 = .ok (.putfield 1, 3) := by decide +kernel
theorem dX10_state_5 : decode cX10_state 5 = .ok (.aload_n 0, 1) := by decide +kernel
theorem dX10_state_6 : decode cX10_state 6 = .ok (.getfield 363, 3) := by decide +kernel
theorem dX10_state_9 : decode cX10_state 9 = .ok (.istore_n 2, 1) := by decide +kernel
theorem dX10_state_10 : decode cX10_state 10 = .ok (.aload_n 0, 1) := by decide +kernel
theorem dX10_state_11 : decode cX10_state 11 = .ok (.iload_n 1, 1) := by decide +kernel
theorem dX10_state_12 : decode cX10_state 12 = .ok (.putfield 363, 3) := by decide +kernel
theorem dX10_state_15 : decode cX10_state 15 = .ok (.iload_n 2, 1) := by decide +kernel
theorem dX10_state_16 : decode cX10_state 16 = .ok (.ireturn, 1) := by decide +kernel
abbrev j10_state : xJ := (cX10_state, 3, RX10, 1, 0, 0)
def F10_state (x1 : Int32) (c_thrown : Int32) (c_state : Int32) : Option (Int32 × Int32 × Int32) :=
  some (c_state, (0 : Int32), x1)
theorem T10_state {X : xX} {x1 : Int32} {c_thrown : Int32} {c_state : Int32} {c_told : (Nat → Int32)} {c_read : (Nat → Int32)} {c_many : (Nat → Int32)} {c_eights : (Nat → Int32)} {c_gains : (Nat → Int32)} {c_notes : (Nat → Int32)} {c_seen : (Nat → Int32)} {c_turns : (Nat → Int32)} {c_drawn : (Nat → Int32)} {c_tape : (Nat → Int32)} {c_taped : Int32} {c_size : Int32} {c_from : Int32} {c_next : Int32} {c_token : Int32} {c_value : Int32} {c_fault : Int32} {c_number : Int32} {c_fives : (Nat → Int32)} {c_isLeft : (Nat → Int32)} {c_wentTimes : Int32} {c_goes : (Nat → Int32)} {c_isLeftLaid : Int32} {c_game : (Nat → Int32)} {c_rows : Int32} {c_columns : Int32} {c_isFound : Int32} {c_bestValue : Int64} {c_bestBelow : Int64} {c_bestShare : (Nat → Int64)} {c_share : (Nat → Int64)} {c_matrix : (Nat → Int64)} {c_system : (Nat → Int64)} {c_shares : (Nat → Int32)} {c_allShares : Int32} {v : Int32 × Int32 × Int32} (hX : xIs (j10_state) X ((some .int)) (some (.int v.1)) (hM v.2.1 c_told c_read c_many c_eights c_gains c_notes c_seen c_turns c_drawn v.2.2 c_tape c_taped c_size c_from c_next c_token c_value c_fault c_number c_fives c_isLeft c_wentTimes c_goes c_isLeftLaid c_game c_rows c_columns c_isFound c_bestValue c_bestBelow c_bestShare c_share c_matrix c_system c_shares c_allShares)) (hf : F10_state x1 c_thrown c_state = some v) : xV (j10_state) X 0 0 (hM c_thrown c_told c_read c_many c_eights c_gains c_notes c_seen c_turns c_drawn c_state c_tape c_taped c_size c_from c_next c_token c_value c_fault c_number c_fives c_isLeft c_wentTimes c_goes c_isLeftLaid c_game c_rows c_columns c_isFound c_bestValue c_bestBelow c_bestShare c_share c_matrix c_system c_shares c_allShares) 0 [(0, .ref 0), (1, .int x1)] [] := by
  unfold F10_state at hf
  refine xV_aload_n 1 rfl dX10_state_0 rfl 0 rfl ?_
  refine xV_iconst 2 rfl dX10_state_1 xk_i0 ?_
  refine xV_put (h' := (hM (0 : Int32) c_told c_read c_many c_eights c_gains c_notes c_seen c_turns c_drawn c_state c_tape c_taped c_size c_from c_next c_token c_value c_fault c_number c_fives c_isLeft c_wentTimes c_goes c_isLeftLaid c_game c_rows c_columns c_isFound c_bestValue c_bestBelow c_bestShare c_share c_matrix c_system c_shares c_allShares)) 5 rfl dX10_state_2 f10_1 rfl nf10_0 (fun _ => rfl) (fun _ => rfl) (Nat.le_of_ble_eq_true rfl) rfl ?_
  refine xV_aload_n 6 rfl dX10_state_5 rfl 0 rfl ?_
  refine xV_get (v := .int c_state) 9 rfl dX10_state_6 f10_363 rfl rfl ?_
  refine xV_istore_n (L' := [(2, .int c_state), (0, .ref 0), (1, .int x1)]) 10 rfl dX10_state_9 rfl (xlt rfl) rfl ?_
  refine xV_aload_n 11 rfl dX10_state_10 rfl 1 rfl ?_
  refine xV_iload_n 12 rfl dX10_state_11 rfl 2 rfl ?_
  refine xV_put (h' := (hM (0 : Int32) c_told c_read c_many c_eights c_gains c_notes c_seen c_turns c_drawn x1 c_tape c_taped c_size c_from c_next c_token c_value c_fault c_number c_fives c_isLeft c_wentTimes c_goes c_isLeftLaid c_game c_rows c_columns c_isFound c_bestValue c_bestBelow c_bestShare c_share c_matrix c_system c_shares c_allShares)) 15 rfl dX10_state_12 f10_363 rfl nf10_10 (fun _ => rfl) (fun _ => rfl) (Nat.le_of_ble_eq_true rfl) rfl ?_
  refine xV_iload_n 16 rfl dX10_state_15 rfl 0 rfl ?_
  obtain rfl := Option.some.inj hf
  exact xV_iret hX dX10_state_16 rfl (Nat.zero_le _) (Nat.zero_le _)
theorem C10_state (l : Launch) {x1 : Int32} {c_thrown : Int32} {c_state : Int32} {c_told : (Nat → Int32)} {c_read : (Nat → Int32)} {c_many : (Nat → Int32)} {c_eights : (Nat → Int32)} {c_gains : (Nat → Int32)} {c_notes : (Nat → Int32)} {c_seen : (Nat → Int32)} {c_turns : (Nat → Int32)} {c_drawn : (Nat → Int32)} {c_tape : (Nat → Int32)} {c_taped : Int32} {c_size : Int32} {c_from : Int32} {c_next : Int32} {c_token : Int32} {c_value : Int32} {c_fault : Int32} {c_number : Int32} {c_fives : (Nat → Int32)} {c_isLeft : (Nat → Int32)} {c_wentTimes : Int32} {c_goes : (Nat → Int32)} {c_isLeftLaid : Int32} {c_game : (Nat → Int32)} {c_rows : Int32} {c_columns : Int32} {c_isFound : Int32} {c_bestValue : Int64} {c_bestBelow : Int64} {c_bestShare : (Nat → Int64)} {c_share : (Nat → Int64)} {c_matrix : (Nat → Int64)} {c_system : (Nat → Int64)} {c_shares : (Nat → Int32)} {c_allShares : Int32} {v : Int32 × Int32 × Int32} (hf : F10_state x1 c_thrown c_state = some v) : xCt l yX10_state ((some .int)) j10_state [.ref 0, .int x1] (hM c_thrown c_told c_read c_many c_eights c_gains c_notes c_seen c_turns c_drawn c_state c_tape c_taped c_size c_from c_next c_token c_value c_fault c_number c_fives c_isLeft c_wentTimes c_goes c_isLeftLaid c_game c_rows c_columns c_isFound c_bestValue c_bestBelow c_bestShare c_share c_matrix c_system c_shares c_allShares) (some (.int v.1)) (hM v.2.1 c_told c_read c_many c_eights c_gains c_notes c_seen c_turns c_drawn v.2.2 c_tape c_taped c_size c_from c_next c_token c_value c_fault c_number c_fives c_isLeft c_wentTimes c_goes c_isLeftLaid c_game c_rows c_columns c_isFound c_bestValue c_bestBelow c_bestShare c_share c_matrix c_system c_shares c_allShares) := xCt_of (by decide) rfl (Nat.le_of_ble_eq_true rfl) (fun _ hX => T10_state hX hf)
theorem m10_state : xMd yX10_state RX10 ((some .int)) j10_state 1 := ⟨List.mem_of_getElem? (i := 1199) (by decide +kernel), List.mem_of_getElem? (i := 5) (by decide +kernel), rfl, by decide +kernel⟩
theorem v10_state : xMv yX10_state RX10 := ⟨List.mem_of_getElem? (i := 1197) (by decide +kernel), List.mem_of_getElem? (i := 1198) (by decide +kernel)⟩
theorem q10_366 : Jvm.Cond.constant RX10 366 (1664525) ∈ wsL_law0 := List.mem_of_getElem? (i := 1239) (by decide +kernel)
theorem q10_367 : Jvm.Cond.constant RX10 367 (1013904223) ∈ wsL_law0 := List.mem_of_getElem? (i := 1240) (by decide +kernel)
theorem dX10_byChance_0 : decode cX10_byChance 0 = .ok (.aload_n 0, 1) := by decide +kernel
theorem dX10_byChance_1 : decode cX10_byChance 1 = .ok (.ldc_w 366, 3) := by decide +kernel
theorem dX10_byChance_4 : decode cX10_byChance 4 = .ok (.aload_n 0, 1) := by decide +kernel
theorem dX10_byChance_5 : decode cX10_byChance 5 = .ok (.getfield 363, 3) := by decide +kernel
theorem dX10_byChance_8 : decode cX10_byChance 8 = .ok (.imul, 1) := by decide +kernel
theorem dX10_byChance_9 : decode cX10_byChance 9 = .ok (.ldc_w 367, 3) := by decide +kernel
theorem dX10_byChance_12 : decode cX10_byChance 12 = .ok (.iadd, 1) := by decide +kernel
theorem dX10_byChance_13 : decode cX10_byChance 13 = .ok (.putfield 363, 3) := by decide +kernel
theorem dX10_byChance_16 : decode cX10_byChance 16 = .ok (.aload_n 0, 1) := by decide +kernel
theorem dX10_byChance_17 : decode cX10_byChance 17 = .ok (.getfield 363, 3) := by decide +kernel
theorem dX10_byChance_20 : decode cX10_byChance 20 = .ok (.bipush 8, 2) := by decide +kernel
theorem dX10_byChance_22 : decode cX10_byChance 22 = .ok (.iushr, 1) := by decide +kernel
theorem dX10_byChance_23 : decode cX10_byChance 23 = .ok (.aload_n 0, 1) := by decide +kernel
theorem dX10_byChance_24 : decode cX10_byChance 24 = .ok (.iload_n 1, 1) := by decide +kernel
theorem dX10_byChance_25 : decode cX10_byChance 25 = .ok (.invokevirtual 340, 3) := by decide +kernel
theorem dX10_byChance_28 : decode cX10_byChance 28 = .ok (.irem, 1) := by decide +kernel
theorem dX10_byChance_29 : decode cX10_byChance 29 = .ok (.istore_n 2, 1) := by decide +kernel
theorem dX10_byChance_30 : decode cX10_byChance 30 = .ok (.iconst 0, 1) := by decide +kernel
theorem dX10_byChance_31 : decode cX10_byChance 31 = .ok (.istore_n 3, 1) := by decide +kernel
theorem dX10_byChance_32 : decode cX10_byChance 32 = .ok (.iload_n 2, 1) := by decide +kernel
theorem dX10_byChance_33 : decode cX10_byChance 33 = .ok (.aload_n 0, 1) := by decide +kernel
theorem dX10_byChance_34 : decode cX10_byChance 34 = .ok (.iload_n 1, 1) := by decide +kernel
theorem dX10_byChance_35 : decode cX10_byChance 35 = .ok (.iload_n 3, 1) := by decide +kernel
theorem dX10_byChance_36 : decode cX10_byChance 36 = .ok (.invokevirtual 331, 3) := by decide +kernel
theorem dX10_byChance_39 : decode cX10_byChance 39 = .ok (.if_icmp .lt 18, 3) := by decide +kernel
theorem dX10_byChance_42 : decode cX10_byChance 42 = .ok (.iload_n 2, 1) := by decide +kernel
theorem dX10_byChance_43 : decode cX10_byChance 43 = .ok (.aload_n 0, 1) := by decide +kernel
theorem dX10_byChance_44 : decode cX10_byChance 44 = .ok (.iload_n 1, 1) := by decide +kernel
theorem dX10_byChance_45 : decode cX10_byChance 45 = .ok (.iload_n 3, 1) := by decide +kernel
theorem dX10_byChance_46 : decode cX10_byChance 46 = .ok (.invokevirtual 331, 3) := by decide +kernel
theorem dX10_byChance_49 : decode cX10_byChance 49 = .ok (.isub, 1) := by decide +kernel
theorem dX10_byChance_50 : decode cX10_byChance 50 = .ok (.istore_n 2, 1) := by decide +kernel
theorem dX10_byChance_51 : decode cX10_byChance 51 = .ok (.iinc 3 1, 3) := by decide +kernel
theorem dX10_byChance_54 : decode cX10_byChance 54 = .ok (.goto (-22), 3) := by decide +kernel
theorem dX10_byChance_57 : decode cX10_byChance 57 = .ok (.aload_n 0, 1) := by decide +kernel
theorem dX10_byChance_58 : decode cX10_byChance 58 = .ok (.iload_n 1, 1) := by decide +kernel
theorem dX10_byChance_59 : decode cX10_byChance 59 = .ok (.iload_n 3, 1) := by decide +kernel
theorem dX10_byChance_60 : decode cX10_byChance 60 = .ok (.invokevirtual 334, 3) := by decide +kernel
theorem dX10_byChance_63 : decode cX10_byChance 63 = .ok (.ireturn, 1) := by decide +kernel
abbrev j10_byChance : xJ := (cX10_byChance, 4, RX10, 4, 0, 0)
def F10_byChance_b57 (z : Nat) (x1 : Int32) (x3 : Int32) (c_told : (Nat → Int32)) (c_many : (Nat → Int32)) (c_eights : (Nat → Int32)) (c_state : Int32) : Option (Int32 × Int32) :=
  (F10_planAt z x1 x3 c_told c_many c_eights).bind (fun v60 => some (v60, c_state))
theorem T10_byChance_b57 {X : xX} {c_thrown : Int32} {c_read : (Nat → Int32)} {c_gains : (Nat → Int32)} {c_notes : (Nat → Int32)} {c_seen : (Nat → Int32)} {c_turns : (Nat → Int32)} {c_drawn : (Nat → Int32)} {c_tape : (Nat → Int32)} {c_taped : Int32} {c_size : Int32} {c_from : Int32} {c_next : Int32} {c_token : Int32} {c_value : Int32} {c_fault : Int32} {c_number : Int32} {c_fives : (Nat → Int32)} {c_isLeft : (Nat → Int32)} {c_wentTimes : Int32} {c_goes : (Nat → Int32)} {c_isLeftLaid : Int32} {c_game : (Nat → Int32)} {c_rows : Int32} {c_columns : Int32} {c_isFound : Int32} {c_bestValue : Int64} {c_bestBelow : Int64} {c_bestShare : (Nat → Int64)} {c_share : (Nat → Int64)} {c_matrix : (Nat → Int64)} {c_system : (Nat → Int64)} {c_shares : (Nat → Int32)} {c_allShares : Int32} {x1 : Int32} {x3 : Int32} {c_told : (Nat → Int32)} {c_many : (Nat → Int32)} {c_eights : (Nat → Int32)} {c_state : Int32} {z : Nat} {v : Int32 × Int32} (hX : xIs (j10_byChance) X ((some .int)) (some (.int v.1)) (hM c_thrown c_told c_read c_many c_eights c_gains c_notes c_seen c_turns c_drawn v.2 c_tape c_taped c_size c_from c_next c_token c_value c_fault c_number c_fives c_isLeft c_wentTimes c_goes c_isLeftLaid c_game c_rows c_columns c_isFound c_bestValue c_bestBelow c_bestShare c_share c_matrix c_system c_shares c_allShares)) (hf : F10_byChance_b57 z x1 x3 c_told c_many c_eights c_state = some v) : xV (j10_byChance) X 0 0 (hM c_thrown c_told c_read c_many c_eights c_gains c_notes c_seen c_turns c_drawn c_state c_tape c_taped c_size c_from c_next c_token c_value c_fault c_number c_fives c_isLeft c_wentTimes c_goes c_isLeftLaid c_game c_rows c_columns c_isFound c_bestValue c_bestBelow c_bestShare c_share c_matrix c_system c_shares c_allShares) 57 [(0, .ref 0), (1, .int x1), (3, .int x3)] [] := by
  unfold F10_byChance_b57 at hf
  refine xV_aload_n 58 rfl dX10_byChance_57 rfl 0 rfl ?_
  refine xV_iload_n 59 rfl dX10_byChance_58 rfl 1 rfl ?_
  refine xV_iload_n 60 rfl dX10_byChance_59 rfl 2 rfl ?_
  obtain ⟨v60, hv60, hf⟩ := xb_s hf
  refine xV_same (rest := []) 63 rfl dX10_byChance_60 rfl (C10_planAt X.1.2.1 hv60) m10_planAt v10_planAt k10_334 rfl rfl rfl rfl rfl (Nat.le_of_ble_eq_true rfl) (Nat.le_of_ble_eq_true rfl) (Nat.le_of_ble_eq_true rfl) ⟨Nat.le_refl _, Nat.le_refl _⟩ ?_
  show xV (j10_byChance) X 0 0 (hM c_thrown c_told c_read c_many c_eights c_gains c_notes c_seen c_turns c_drawn c_state c_tape c_taped c_size c_from c_next c_token c_value c_fault c_number c_fives c_isLeft c_wentTimes c_goes c_isLeftLaid c_game c_rows c_columns c_isFound c_bestValue c_bestBelow c_bestShare c_share c_matrix c_system c_shares c_allShares) 63 [(0, .ref 0), (1, .int x1), (3, .int x3)] [.int v60]
  obtain rfl := Option.some.inj hf
  exact xV_iret hX dX10_byChance_63 rfl (Nat.zero_le _) (Nat.zero_le _)
def F10_byChance_b32 (z : Nat) (w : Nat) (x1 : Int32) (x2 : Int32) (x3 : Int32) (c_told : (Nat → Int32)) (c_many : (Nat → Int32)) (c_eights : (Nat → Int32)) (c_state : Int32) : Option (Int32 × Int32) := match w with
  | 0 => none
  | w + 1 => (F10_weightAt x1 x3 c_told).bind (fun v36 => if x2 < v36 then (F10_byChance_b57 z x1 x3 c_told c_many c_eights c_state) else ((F10_weightAt x1 x3 c_told).bind (fun v46 => F10_byChance_b32 z w x1 (x2 - v46) (x3 + (1 : Int32)) c_told c_many c_eights c_state)))
theorem T10_byChance_b32 {X : xX} {c_thrown : Int32} {c_told : (Nat → Int32)} {c_read : (Nat → Int32)} {c_many : (Nat → Int32)} {c_eights : (Nat → Int32)} {c_gains : (Nat → Int32)} {c_notes : (Nat → Int32)} {c_seen : (Nat → Int32)} {c_turns : (Nat → Int32)} {c_drawn : (Nat → Int32)} {c_tape : (Nat → Int32)} {c_taped : Int32} {c_size : Int32} {c_from : Int32} {c_next : Int32} {c_token : Int32} {c_value : Int32} {c_fault : Int32} {c_number : Int32} {c_fives : (Nat → Int32)} {c_isLeft : (Nat → Int32)} {c_wentTimes : Int32} {c_goes : (Nat → Int32)} {c_isLeftLaid : Int32} {c_game : (Nat → Int32)} {c_rows : Int32} {c_columns : Int32} {c_isFound : Int32} {c_bestValue : Int64} {c_bestBelow : Int64} {c_bestShare : (Nat → Int64)} {c_share : (Nat → Int64)} {c_matrix : (Nat → Int64)} {c_system : (Nat → Int64)} {c_shares : (Nat → Int32)} {c_allShares : Int32} {z : Nat} {v : Int32 × Int32} (hX : xIs (j10_byChance) X ((some .int)) (some (.int v.1)) (hM c_thrown c_told c_read c_many c_eights c_gains c_notes c_seen c_turns c_drawn v.2 c_tape c_taped c_size c_from c_next c_token c_value c_fault c_number c_fives c_isLeft c_wentTimes c_goes c_isLeftLaid c_game c_rows c_columns c_isFound c_bestValue c_bestBelow c_bestShare c_share c_matrix c_system c_shares c_allShares)) : ∀ (w : Nat) {x1 : Int32} {x2 : Int32} {x3 : Int32} {c_state : Int32}, F10_byChance_b32 z w x1 x2 x3 c_told c_many c_eights c_state = some v → xV (j10_byChance) X 0 0 (hM c_thrown c_told c_read c_many c_eights c_gains c_notes c_seen c_turns c_drawn c_state c_tape c_taped c_size c_from c_next c_token c_value c_fault c_number c_fives c_isLeft c_wentTimes c_goes c_isLeftLaid c_game c_rows c_columns c_isFound c_bestValue c_bestBelow c_bestShare c_share c_matrix c_system c_shares c_allShares) 32 [(0, .ref 0), (1, .int x1), (2, .int x2), (3, .int x3)] [] := by
  intro w
  induction w with
  | zero => intro x1 x2 x3 c_state hf; cases hf
  | succ w ih =>
    intro x1 x2 x3 c_state hf
    unfold F10_byChance_b32 at hf
    refine xV_iload_n 33 rfl dX10_byChance_32 rfl 2 rfl ?_
    refine xV_aload_n 34 rfl dX10_byChance_33 rfl 0 rfl ?_
    refine xV_iload_n 35 rfl dX10_byChance_34 rfl 1 rfl ?_
    refine xV_iload_n 36 rfl dX10_byChance_35 rfl 3 rfl ?_
    obtain ⟨v36, hv36, hf⟩ := xb_s hf
    refine xV_same (rest := [.int x2]) 39 rfl dX10_byChance_36 rfl (C10_weightAt X.1.2.1 hv36) m10_weightAt v10_weightAt k10_331 rfl rfl rfl rfl rfl (Nat.le_of_ble_eq_true rfl) (Nat.le_of_ble_eq_true rfl) (Nat.le_of_ble_eq_true rfl) ⟨Nat.le_refl _, Nat.le_refl _⟩ ?_
    show xV (j10_byChance) X 0 0 (hM c_thrown c_told c_read c_many c_eights c_gains c_notes c_seen c_turns c_drawn c_state c_tape c_taped c_size c_from c_next c_token c_value c_fault c_number c_fives c_isLeft c_wentTimes c_goes c_isLeftLaid c_game c_rows c_columns c_isFound c_bestValue c_bestBelow c_bestShare c_share c_matrix c_system c_shares c_allShares) 39 [(0, .ref 0), (1, .int x1), (2, .int x2), (3, .int x3)] [.int v36, .int x2]
    refine xV_icmp_lt (tgt := 57) 42 rfl dX10_byChance_39 (by decide) (fun h39 => ?_) (fun h39 => ?_)
    · have hf := xif_t hf h39
      refine xV_sub [0, 1, 3] rfl ?_
      exact T10_byChance_b57 hX hf
    · have hf := xif_f hf h39
      refine xV_iload_n 43 rfl dX10_byChance_42 rfl 2 rfl ?_
      refine xV_aload_n 44 rfl dX10_byChance_43 rfl 0 rfl ?_
      refine xV_iload_n 45 rfl dX10_byChance_44 rfl 1 rfl ?_
      refine xV_iload_n 46 rfl dX10_byChance_45 rfl 3 rfl ?_
      obtain ⟨v46, hv46, hf⟩ := xb_s hf
      refine xV_same (rest := [.int x2]) 49 rfl dX10_byChance_46 rfl (C10_weightAt X.1.2.1 hv46) m10_weightAt v10_weightAt k10_331 rfl rfl rfl rfl rfl (Nat.le_of_ble_eq_true rfl) (Nat.le_of_ble_eq_true rfl) (Nat.le_of_ble_eq_true rfl) ⟨Nat.le_refl _, Nat.le_refl _⟩ ?_
      show xV (j10_byChance) X 0 0 (hM c_thrown c_told c_read c_many c_eights c_gains c_notes c_seen c_turns c_drawn c_state c_tape c_taped c_size c_from c_next c_token c_value c_fault c_number c_fives c_isLeft c_wentTimes c_goes c_isLeftLaid c_game c_rows c_columns c_isFound c_bestValue c_bestBelow c_bestShare c_share c_matrix c_system c_shares c_allShares) 49 [(0, .ref 0), (1, .int x1), (2, .int x2), (3, .int x3)] [.int v46, .int x2]
      refine xV_isub 50 rfl dX10_byChance_49 ?_
      refine xV_istore_n (L' := [(2, .int (x2 - v46)), (0, .ref 0), (1, .int x1), (3, .int x3)]) 51 rfl dX10_byChance_50 rfl (xlt rfl) rfl ?_
      refine xV_iinc (L' := [(3, .int (x3 + (1 : Int32))), (2, .int (x2 - v46)), (0, .ref 0), (1, .int x1)]) 54 rfl dX10_byChance_51 3 rfl (xk_inc xk_i1) (xlt rfl) rfl ?_
      refine xV_goto (tgt := 32) dX10_byChance_54 (by decide) ?_
      refine xV_sub [2, 3, 1, 0] rfl ?_
      exact ih hf
def F10_byChance (z : Nat) (x1 : Int32) (c_told : (Nat → Int32)) (c_many : (Nat → Int32)) (c_eights : (Nat → Int32)) (c_state : Int32) : Option (Int32 × Int32) :=
  (F10_weights z x1 c_told).bind (fun v25 => xg (xnz v25) (F10_byChance_b32 z z x1 ((((((1664525 : Int32) * c_state) + (1013904223 : Int32))).toUInt32 >>> (((8 : Int32)).toUInt32 &&& Int32.toUInt32 31)).toInt32 - (((((1664525 : Int32) * c_state) + (1013904223 : Int32))).toUInt32 >>> (((8 : Int32)).toUInt32 &&& Int32.toUInt32 31)).toInt32 / v25 * v25) (0 : Int32) c_told c_many c_eights (((1664525 : Int32) * c_state) + (1013904223 : Int32))))
theorem T10_byChance {X : xX} {z : Nat} {x1 : Int32} {c_told : (Nat → Int32)} {c_many : (Nat → Int32)} {c_eights : (Nat → Int32)} {c_state : Int32} {c_thrown : Int32} {c_read : (Nat → Int32)} {c_gains : (Nat → Int32)} {c_notes : (Nat → Int32)} {c_seen : (Nat → Int32)} {c_turns : (Nat → Int32)} {c_drawn : (Nat → Int32)} {c_tape : (Nat → Int32)} {c_taped : Int32} {c_size : Int32} {c_from : Int32} {c_next : Int32} {c_token : Int32} {c_value : Int32} {c_fault : Int32} {c_number : Int32} {c_fives : (Nat → Int32)} {c_isLeft : (Nat → Int32)} {c_wentTimes : Int32} {c_goes : (Nat → Int32)} {c_isLeftLaid : Int32} {c_game : (Nat → Int32)} {c_rows : Int32} {c_columns : Int32} {c_isFound : Int32} {c_bestValue : Int64} {c_bestBelow : Int64} {c_bestShare : (Nat → Int64)} {c_share : (Nat → Int64)} {c_matrix : (Nat → Int64)} {c_system : (Nat → Int64)} {c_shares : (Nat → Int32)} {c_allShares : Int32} {v : Int32 × Int32} (hX : xIs (j10_byChance) X ((some .int)) (some (.int v.1)) (hM c_thrown c_told c_read c_many c_eights c_gains c_notes c_seen c_turns c_drawn v.2 c_tape c_taped c_size c_from c_next c_token c_value c_fault c_number c_fives c_isLeft c_wentTimes c_goes c_isLeftLaid c_game c_rows c_columns c_isFound c_bestValue c_bestBelow c_bestShare c_share c_matrix c_system c_shares c_allShares)) (hf : F10_byChance z x1 c_told c_many c_eights c_state = some v) : xV (j10_byChance) X 0 0 (hM c_thrown c_told c_read c_many c_eights c_gains c_notes c_seen c_turns c_drawn c_state c_tape c_taped c_size c_from c_next c_token c_value c_fault c_number c_fives c_isLeft c_wentTimes c_goes c_isLeftLaid c_game c_rows c_columns c_isFound c_bestValue c_bestBelow c_bestShare c_share c_matrix c_system c_shares c_allShares) 0 [(0, .ref 0), (1, .int x1)] [] := by
  unfold F10_byChance at hf
  refine xV_aload_n 1 rfl dX10_byChance_0 rfl 0 rfl ?_
  refine xV_ldcw 4 rfl dX10_byChance_1 q10_366 ?_
  refine xV_aload_n 5 rfl dX10_byChance_4 rfl 0 rfl ?_
  refine xV_get (v := .int c_state) 8 rfl dX10_byChance_5 f10_363 rfl rfl ?_
  refine xV_imul 9 rfl dX10_byChance_8 ?_
  refine xV_ldcw 12 rfl dX10_byChance_9 q10_367 ?_
  refine xV_iadd 13 rfl dX10_byChance_12 ?_
  refine xV_put (h' := (hM c_thrown c_told c_read c_many c_eights c_gains c_notes c_seen c_turns c_drawn (((1664525 : Int32) * c_state) + (1013904223 : Int32)) c_tape c_taped c_size c_from c_next c_token c_value c_fault c_number c_fives c_isLeft c_wentTimes c_goes c_isLeftLaid c_game c_rows c_columns c_isFound c_bestValue c_bestBelow c_bestShare c_share c_matrix c_system c_shares c_allShares)) 16 rfl dX10_byChance_13 f10_363 rfl nf10_10 (fun _ => rfl) (fun _ => rfl) (Nat.le_of_ble_eq_true rfl) rfl ?_
  refine xV_aload_n 17 rfl dX10_byChance_16 rfl 0 rfl ?_
  refine xV_get (v := .int (((1664525 : Int32) * c_state) + (1013904223 : Int32))) 20 rfl dX10_byChance_17 f10_363 rfl rfl ?_
  refine xV_bipush 22 rfl dX10_byChance_20 xk_b8 ?_
  refine xV_iushr 23 rfl dX10_byChance_22 ?_
  refine xV_aload_n 24 rfl dX10_byChance_23 rfl 0 rfl ?_
  refine xV_iload_n 25 rfl dX10_byChance_24 rfl 1 rfl ?_
  obtain ⟨v25, hv25, hf⟩ := xb_s hf
  refine xV_same (rest := [.int (((((1664525 : Int32) * c_state) + (1013904223 : Int32))).toUInt32 >>> (((8 : Int32)).toUInt32 &&& Int32.toUInt32 31)).toInt32]) 28 rfl dX10_byChance_25 rfl (C10_weights X.1.2.1 hv25) m10_weights v10_weights k10_340 rfl rfl rfl rfl rfl (Nat.le_of_ble_eq_true rfl) (Nat.le_of_ble_eq_true rfl) (Nat.le_of_ble_eq_true rfl) ⟨Nat.le_refl _, Nat.le_refl _⟩ ?_
  show xV (j10_byChance) X 0 0 (hM c_thrown c_told c_read c_many c_eights c_gains c_notes c_seen c_turns c_drawn (((1664525 : Int32) * c_state) + (1013904223 : Int32)) c_tape c_taped c_size c_from c_next c_token c_value c_fault c_number c_fives c_isLeft c_wentTimes c_goes c_isLeftLaid c_game c_rows c_columns c_isFound c_bestValue c_bestBelow c_bestShare c_share c_matrix c_system c_shares c_allShares) 28 [(0, .ref 0), (1, .int x1)] [.int v25, .int (((((1664525 : Int32) * c_state) + (1013904223 : Int32))).toUInt32 >>> (((8 : Int32)).toUInt32 &&& Int32.toUInt32 31)).toInt32]
  obtain ⟨hg28, hf⟩ := xg_s hf
  refine xV_irem 29 rfl dX10_byChance_28 (xnz_ok hg28) ?_
  refine xV_istore_n (L' := [(2, .int ((((((1664525 : Int32) * c_state) + (1013904223 : Int32))).toUInt32 >>> (((8 : Int32)).toUInt32 &&& Int32.toUInt32 31)).toInt32 - (((((1664525 : Int32) * c_state) + (1013904223 : Int32))).toUInt32 >>> (((8 : Int32)).toUInt32 &&& Int32.toUInt32 31)).toInt32 / v25 * v25)), (0, .ref 0), (1, .int x1)]) 30 rfl dX10_byChance_29 rfl (xlt rfl) rfl ?_
  refine xV_iconst 31 rfl dX10_byChance_30 xk_i0 ?_
  refine xV_istore_n (L' := [(3, .int (0 : Int32)), (2, .int ((((((1664525 : Int32) * c_state) + (1013904223 : Int32))).toUInt32 >>> (((8 : Int32)).toUInt32 &&& Int32.toUInt32 31)).toInt32 - (((((1664525 : Int32) * c_state) + (1013904223 : Int32))).toUInt32 >>> (((8 : Int32)).toUInt32 &&& Int32.toUInt32 31)).toInt32 / v25 * v25)), (0, .ref 0), (1, .int x1)]) 32 rfl dX10_byChance_31 rfl (xlt rfl) rfl ?_
  refine xV_sub [2, 3, 1, 0] rfl ?_
  exact T10_byChance_b32 hX _ hf
theorem C10_byChance (l : Launch) {z : Nat} {x1 : Int32} {c_told : (Nat → Int32)} {c_many : (Nat → Int32)} {c_eights : (Nat → Int32)} {c_state : Int32} {c_thrown : Int32} {c_read : (Nat → Int32)} {c_gains : (Nat → Int32)} {c_notes : (Nat → Int32)} {c_seen : (Nat → Int32)} {c_turns : (Nat → Int32)} {c_drawn : (Nat → Int32)} {c_tape : (Nat → Int32)} {c_taped : Int32} {c_size : Int32} {c_from : Int32} {c_next : Int32} {c_token : Int32} {c_value : Int32} {c_fault : Int32} {c_number : Int32} {c_fives : (Nat → Int32)} {c_isLeft : (Nat → Int32)} {c_wentTimes : Int32} {c_goes : (Nat → Int32)} {c_isLeftLaid : Int32} {c_game : (Nat → Int32)} {c_rows : Int32} {c_columns : Int32} {c_isFound : Int32} {c_bestValue : Int64} {c_bestBelow : Int64} {c_bestShare : (Nat → Int64)} {c_share : (Nat → Int64)} {c_matrix : (Nat → Int64)} {c_system : (Nat → Int64)} {c_shares : (Nat → Int32)} {c_allShares : Int32} {v : Int32 × Int32} (hf : F10_byChance z x1 c_told c_many c_eights c_state = some v) : xCt l yX10_byChance ((some .int)) j10_byChance [.ref 0, .int x1] (hM c_thrown c_told c_read c_many c_eights c_gains c_notes c_seen c_turns c_drawn c_state c_tape c_taped c_size c_from c_next c_token c_value c_fault c_number c_fives c_isLeft c_wentTimes c_goes c_isLeftLaid c_game c_rows c_columns c_isFound c_bestValue c_bestBelow c_bestShare c_share c_matrix c_system c_shares c_allShares) (some (.int v.1)) (hM c_thrown c_told c_read c_many c_eights c_gains c_notes c_seen c_turns c_drawn v.2 c_tape c_taped c_size c_from c_next c_token c_value c_fault c_number c_fives c_isLeft c_wentTimes c_goes c_isLeftLaid c_game c_rows c_columns c_isFound c_bestValue c_bestBelow c_bestShare c_share c_matrix c_system c_shares c_allShares) := xCt_of (by decide) rfl (Nat.le_of_ble_eq_true rfl) (fun _ hX => T10_byChance hX hf)
theorem m10_byChance : xMd yX10_byChance RX10 ((some .int)) j10_byChance 1 := ⟨List.mem_of_getElem? (i := 1238) (by decide +kernel), List.mem_of_getElem? (i := 5) (by decide +kernel), rfl, by decide +kernel⟩
theorem v10_byChance : xMv yX10_byChance RX10 := ⟨List.mem_of_getElem? (i := 1236) (by decide +kernel), List.mem_of_getElem? (i := 1237) (by decide +kernel)⟩
theorem dX10_due_0 : decode cX10_due 0 = .ok (.aload_n 0, 1) := by decide +kernel
theorem dX10_due_1 : decode cX10_due 1 = .ok (.iload_n 1, 1) := by decide +kernel
theorem dX10_due_2 : decode cX10_due 2 = .ok (.iload_n 2, 1) := by decide +kernel
theorem dX10_due_3 : decode cX10_due 3 = .ok (.invokevirtual 331, 3) := by decide +kernel
theorem dX10_due_6 : decode cX10_due 6 = .ok (.i2l, 1) := by decide +kernel
theorem dX10_due_7 : decode cX10_due 7 = .ok (.aload_n 0, 1) := by decide +kernel
theorem dX10_due_8 : decode cX10_due 8 = .ok (.getfield 39, 3) := by decide +kernel
theorem dX10_due_11 : decode cX10_due 11 = .ok (.iload_n 1, 1) := by decide +kernel
theorem dX10_due_12 : decode cX10_due 12 = .ok (.iaload, 1) := by decide +kernel
theorem dX10_due_13 : decode cX10_due 13 = .ok (.i2l, 1) := by decide +kernel
theorem dX10_due_14 : decode cX10_due 14 = .ok (.lmul, 1) := by decide +kernel
theorem dX10_due_15 : decode cX10_due 15 = .ok (.aload_n 0, 1) := by decide +kernel
theorem dX10_due_16 : decode cX10_due 16 = .ok (.getfield 42, 3) := by decide +kernel
theorem dX10_due_19 : decode cX10_due 19 = .ok (.bipush 8, 2) := by decide +kernel
theorem dX10_due_21 : decode cX10_due 21 = .ok (.iload_n 1, 1) := by decide +kernel
theorem dX10_due_22 : decode cX10_due 22 = .ok (.imul, 1) := by decide +kernel
theorem dX10_due_23 : decode cX10_due 23 = .ok (.iload_n 2, 1) := by decide +kernel
theorem dX10_due_24 : decode cX10_due 24 = .ok (.iadd, 1) := by decide +kernel
theorem dX10_due_25 : decode cX10_due 25 = .ok (.iaload, 1) := by decide +kernel
theorem dX10_due_26 : decode cX10_due 26 = .ok (.i2l, 1) := by decide +kernel
theorem dX10_due_27 : decode cX10_due 27 = .ok (.aload_n 0, 1) := by decide +kernel
theorem dX10_due_28 : decode cX10_due 28 = .ok (.iload_n 1, 1) := by decide +kernel
theorem dX10_due_29 : decode cX10_due 29 = .ok (.invokevirtual 340, 3) := by decide +kernel
theorem dX10_due_32 : decode cX10_due 32 = .ok (.i2l, 1) := by decide +kernel
theorem dX10_due_33 : decode cX10_due 33 = .ok (.lmul, 1) := by decide +kernel
theorem dX10_due_34 : decode cX10_due 34 = .ok (.lsub, 1) := by decide +kernel
theorem dX10_due_35 : decode cX10_due 35 = .ok (.lreturn, 1) := by decide +kernel
abbrev j10_due : xJ := (cX10_due, 3, RX10, 4, 0, 0)
def F10_due (z : Nat) (x1 : Int32) (x2 : Int32) (c_told : (Nat → Int32)) (c_turns : (Nat → Int32)) (c_drawn : (Nat → Int32)) : Option (Int64) :=
  (F10_weightAt x1 x2 c_told).bind (fun v3 => xg (xin x1 2) (xg (xin (((8 : Int32) * x1) + x2) 16) ((F10_weights z x1 c_told).bind (fun v29 => some ((((v3).toInt64 * ((c_turns (xn x1))).toInt64) - (((c_drawn (xn (((8 : Int32) * x1) + x2)))).toInt64 * (v29).toInt64)))))))
theorem T10_due {X : xX} {z : Nat} {x1 : Int32} {x2 : Int32} {c_told : (Nat → Int32)} {c_turns : (Nat → Int32)} {c_drawn : (Nat → Int32)} {c_thrown : Int32} {c_read : (Nat → Int32)} {c_many : (Nat → Int32)} {c_eights : (Nat → Int32)} {c_gains : (Nat → Int32)} {c_notes : (Nat → Int32)} {c_seen : (Nat → Int32)} {c_state : Int32} {c_tape : (Nat → Int32)} {c_taped : Int32} {c_size : Int32} {c_from : Int32} {c_next : Int32} {c_token : Int32} {c_value : Int32} {c_fault : Int32} {c_number : Int32} {c_fives : (Nat → Int32)} {c_isLeft : (Nat → Int32)} {c_wentTimes : Int32} {c_goes : (Nat → Int32)} {c_isLeftLaid : Int32} {c_game : (Nat → Int32)} {c_rows : Int32} {c_columns : Int32} {c_isFound : Int32} {c_bestValue : Int64} {c_bestBelow : Int64} {c_bestShare : (Nat → Int64)} {c_share : (Nat → Int64)} {c_matrix : (Nat → Int64)} {c_system : (Nat → Int64)} {c_shares : (Nat → Int32)} {c_allShares : Int32} {v : Int64} (hX : xIs (j10_due) X ((some .long)) (some (.long v)) (hM c_thrown c_told c_read c_many c_eights c_gains c_notes c_seen c_turns c_drawn c_state c_tape c_taped c_size c_from c_next c_token c_value c_fault c_number c_fives c_isLeft c_wentTimes c_goes c_isLeftLaid c_game c_rows c_columns c_isFound c_bestValue c_bestBelow c_bestShare c_share c_matrix c_system c_shares c_allShares)) (hf : F10_due z x1 x2 c_told c_turns c_drawn = some v) : xV (j10_due) X 0 0 (hM c_thrown c_told c_read c_many c_eights c_gains c_notes c_seen c_turns c_drawn c_state c_tape c_taped c_size c_from c_next c_token c_value c_fault c_number c_fives c_isLeft c_wentTimes c_goes c_isLeftLaid c_game c_rows c_columns c_isFound c_bestValue c_bestBelow c_bestShare c_share c_matrix c_system c_shares c_allShares) 0 [(0, .ref 0), (1, .int x1), (2, .int x2)] [] := by
  unfold F10_due at hf
  refine xV_aload_n 1 rfl dX10_due_0 rfl 0 rfl ?_
  refine xV_iload_n 2 rfl dX10_due_1 rfl 1 rfl ?_
  refine xV_iload_n 3 rfl dX10_due_2 rfl 2 rfl ?_
  obtain ⟨v3, hv3, hf⟩ := xb_s hf
  refine xV_same (rest := []) 6 rfl dX10_due_3 rfl (C10_weightAt X.1.2.1 hv3) m10_weightAt v10_weightAt k10_331 rfl rfl rfl rfl rfl (Nat.le_of_ble_eq_true rfl) (Nat.le_of_ble_eq_true rfl) (Nat.le_of_ble_eq_true rfl) ⟨Nat.le_refl _, Nat.le_refl _⟩ ?_
  show xV (j10_due) X 0 0 (hM c_thrown c_told c_read c_many c_eights c_gains c_notes c_seen c_turns c_drawn c_state c_tape c_taped c_size c_from c_next c_token c_value c_fault c_number c_fives c_isLeft c_wentTimes c_goes c_isLeftLaid c_game c_rows c_columns c_isFound c_bestValue c_bestBelow c_bestShare c_share c_matrix c_system c_shares c_allShares) 6 [(0, .ref 0), (1, .int x1), (2, .int x2)] [.int v3]
  refine xV_i2l 7 rfl dX10_due_6 ?_
  refine xV_aload_n 8 rfl dX10_due_7 rfl 0 rfl ?_
  refine xV_get (v := .ref 8) 11 rfl dX10_due_8 f10_39 rfl rfl ?_
  refine xV_iload_n 12 rfl dX10_due_11 rfl 1 rfl ?_
  obtain ⟨hg12, hf⟩ := xg_s hf
  refine xV_iaload 13 rfl dX10_due_12 rfl (xin_ok hg12) rfl ?_
  refine xV_i2l 14 rfl dX10_due_13 ?_
  refine xV_lmul 15 rfl dX10_due_14 ?_
  refine xV_aload_n 16 rfl dX10_due_15 rfl 0 rfl ?_
  refine xV_get (v := .ref 9) 19 rfl dX10_due_16 f10_42 rfl rfl ?_
  refine xV_bipush 21 rfl dX10_due_19 xk_b8 ?_
  refine xV_iload_n 22 rfl dX10_due_21 rfl 1 rfl ?_
  refine xV_imul 23 rfl dX10_due_22 ?_
  refine xV_iload_n 24 rfl dX10_due_23 rfl 2 rfl ?_
  refine xV_iadd 25 rfl dX10_due_24 ?_
  obtain ⟨hg25, hf⟩ := xg_s hf
  refine xV_iaload 26 rfl dX10_due_25 rfl (xin_ok hg25) rfl ?_
  refine xV_i2l 27 rfl dX10_due_26 ?_
  refine xV_aload_n 28 rfl dX10_due_27 rfl 0 rfl ?_
  refine xV_iload_n 29 rfl dX10_due_28 rfl 1 rfl ?_
  obtain ⟨v29, hv29, hf⟩ := xb_s hf
  refine xV_same (rest := [.long ((c_drawn (xn (((8 : Int32) * x1) + x2)))).toInt64, .long ((v3).toInt64 * ((c_turns (xn x1))).toInt64)]) 32 rfl dX10_due_29 rfl (C10_weights X.1.2.1 hv29) m10_weights v10_weights k10_340 rfl rfl rfl rfl rfl (Nat.le_of_ble_eq_true rfl) (Nat.le_of_ble_eq_true rfl) (Nat.le_of_ble_eq_true rfl) ⟨Nat.le_refl _, Nat.le_refl _⟩ ?_
  show xV (j10_due) X 0 0 (hM c_thrown c_told c_read c_many c_eights c_gains c_notes c_seen c_turns c_drawn c_state c_tape c_taped c_size c_from c_next c_token c_value c_fault c_number c_fives c_isLeft c_wentTimes c_goes c_isLeftLaid c_game c_rows c_columns c_isFound c_bestValue c_bestBelow c_bestShare c_share c_matrix c_system c_shares c_allShares) 32 [(0, .ref 0), (1, .int x1), (2, .int x2)] [.int v29, .long ((c_drawn (xn (((8 : Int32) * x1) + x2)))).toInt64, .long ((v3).toInt64 * ((c_turns (xn x1))).toInt64)]
  refine xV_i2l 33 rfl dX10_due_32 ?_
  refine xV_lmul 34 rfl dX10_due_33 ?_
  refine xV_lsub 35 rfl dX10_due_34 ?_
  obtain rfl := Option.some.inj hf
  exact xV_lret hX dX10_due_35 (Nat.zero_le _) (Nat.zero_le _)
theorem C10_due (l : Launch) {z : Nat} {x1 : Int32} {x2 : Int32} {c_told : (Nat → Int32)} {c_turns : (Nat → Int32)} {c_drawn : (Nat → Int32)} {c_thrown : Int32} {c_read : (Nat → Int32)} {c_many : (Nat → Int32)} {c_eights : (Nat → Int32)} {c_gains : (Nat → Int32)} {c_notes : (Nat → Int32)} {c_seen : (Nat → Int32)} {c_state : Int32} {c_tape : (Nat → Int32)} {c_taped : Int32} {c_size : Int32} {c_from : Int32} {c_next : Int32} {c_token : Int32} {c_value : Int32} {c_fault : Int32} {c_number : Int32} {c_fives : (Nat → Int32)} {c_isLeft : (Nat → Int32)} {c_wentTimes : Int32} {c_goes : (Nat → Int32)} {c_isLeftLaid : Int32} {c_game : (Nat → Int32)} {c_rows : Int32} {c_columns : Int32} {c_isFound : Int32} {c_bestValue : Int64} {c_bestBelow : Int64} {c_bestShare : (Nat → Int64)} {c_share : (Nat → Int64)} {c_matrix : (Nat → Int64)} {c_system : (Nat → Int64)} {c_shares : (Nat → Int32)} {c_allShares : Int32} {v : Int64} (hf : F10_due z x1 x2 c_told c_turns c_drawn = some v) : xCt l yX10_due ((some .long)) j10_due [.ref 0, .int x1, .int x2] (hM c_thrown c_told c_read c_many c_eights c_gains c_notes c_seen c_turns c_drawn c_state c_tape c_taped c_size c_from c_next c_token c_value c_fault c_number c_fives c_isLeft c_wentTimes c_goes c_isLeftLaid c_game c_rows c_columns c_isFound c_bestValue c_bestBelow c_bestShare c_share c_matrix c_system c_shares c_allShares) (some (.long v)) (hM c_thrown c_told c_read c_many c_eights c_gains c_notes c_seen c_turns c_drawn c_state c_tape c_taped c_size c_from c_next c_token c_value c_fault c_number c_fives c_isLeft c_wentTimes c_goes c_isLeftLaid c_game c_rows c_columns c_isFound c_bestValue c_bestBelow c_bestShare c_share c_matrix c_system c_shares c_allShares) := xCt_of (by decide) rfl (Nat.le_of_ble_eq_true rfl) (fun _ hX => T10_due hX hf)
theorem m10_due : xMd yX10_due RX10 ((some .long)) j10_due 2 := ⟨List.mem_of_getElem? (i := 1234) (by decide +kernel), List.mem_of_getElem? (i := 5) (by decide +kernel), rfl, by decide +kernel⟩
theorem v10_due : xMv yX10_due RX10 := ⟨List.mem_of_getElem? (i := 1232) (by decide +kernel), List.mem_of_getElem? (i := 1233) (by decide +kernel)⟩
theorem k10_368 : Cond.methodLink RX10 368 yX10_due ∈ wsL_law0 := List.mem_of_getElem? (i := 1231) (by decide +kernel)
theorem dX10_byTurns_0 : decode cX10_byTurns 0 = .ok (.aload_n 0, 1) := by decide +kernel
theorem dX10_byTurns_1 : decode cX10_byTurns 1 = .ok (.getfield 39, 3) := by decide +kernel
theorem dX10_byTurns_4 : decode cX10_byTurns 4 = .ok (.iload_n 1, 1) := by decide +kernel
theorem dX10_byTurns_5 : decode cX10_byTurns 5 = .ok (.dup2, 1) := by decide +kernel
theorem dX10_byTurns_6 : decode cX10_byTurns 6 = .ok (.iaload, 1) := by decide +kernel
theorem dX10_byTurns_7 : decode cX10_byTurns 7 = .ok (.iconst 1, 1) := by decide +kernel
theorem dX10_byTurns_8 : decode cX10_byTurns 8 = .ok (.iadd, 1) := by decide +kernel
theorem dX10_byTurns_9 : decode cX10_byTurns 9 = .ok (.iastore, 1) := by decide +kernel
theorem dX10_byTurns_10 : decode cX10_byTurns 10 = .ok (.iconst 0, 1) := by decide +kernel
theorem dX10_byTurns_11 : decode cX10_byTurns 11 = .ok (.istore_n 2, 1) := by decide +kernel
theorem dX10_byTurns_12 : decode cX10_byTurns 12 = .ok (.iconst 1, 1) := by decide +kernel
theorem dX10_byTurns_13 : decode cX10_byTurns 13 = .ok (.istore_n 3, 1) := by decide +kernel
theorem dX10_byTurns_14 : decode cX10_byTurns 14 = .ok (.iload_n 3, 1) := by decide +kernel
theorem dX10_byTurns_15 : decode cX10_byTurns 15 = .ok (.aload_n 0, 1) := by decide +kernel
theorem dX10_byTurns_16 : decode cX10_byTurns 16 = .ok (.iload_n 1, 1) := by decide +kernel
theorem dX10_byTurns_17 : decode cX10_byTurns 17 = .ok (.invokevirtual 328, 3) := by decide +kernel
theorem dX10_byTurns_20 : decode cX10_byTurns 20 = .ok (.if_icmp .ge 31, 3) := by decide +kernel
theorem dX10_byTurns_23 : decode cX10_byTurns 23 = .ok (.aload_n 0, 1) := by decide +kernel
theorem dX10_byTurns_24 : decode cX10_byTurns 24 = .ok (.iload_n 1, 1) := by decide +kernel
theorem dX10_byTurns_25 : decode cX10_byTurns 25 = .ok (.iload_n 3, 1) := by decide +kernel
theorem dX10_byTurns_26 : decode cX10_byTurns 26 = .ok (.invokevirtual 368, 3) := by decide +kernel
theorem dX10_byTurns_29 : decode cX10_byTurns 29 = .ok (.aload_n 0, 1) := by decide +kernel
theorem dX10_byTurns_30 : decode cX10_byTurns 30 = .ok (.iload_n 1, 1) := by decide +kernel
theorem dX10_byTurns_31 : decode cX10_byTurns 31 = .ok (.iload_n 2, 1) := by decide +kernel
theorem dX10_byTurns_32 : decode cX10_byTurns 32 = .ok (.invokevirtual 368, 3) := by decide +kernel
theorem dX10_byTurns_35 : decode cX10_byTurns 35 = .ok (.lcmp, 1) := by decide +kernel
theorem dX10_byTurns_36 : decode cX10_byTurns 36 = .ok (.ifCond .le 7, 3) := by decide +kernel
theorem dX10_byTurns_39 : decode cX10_byTurns 39 = .ok (.iload_n 3, 1) := by decide +kernel
theorem dX10_byTurns_40 : decode cX10_byTurns 40 = .ok (.goto 4, 3) := by decide +kernel
theorem dX10_byTurns_43 : decode cX10_byTurns 43 = .ok (.iload_n 2, 1) := by decide +kernel
theorem dX10_byTurns_44 : decode cX10_byTurns 44 = .ok (.istore_n 2, 1) := by decide +kernel
theorem dX10_byTurns_45 : decode cX10_byTurns 45 = .ok (.iinc 3 1, 3) := by decide +kernel
theorem dX10_byTurns_48 : decode cX10_byTurns 48 = .ok (.goto (-34), 3) := by decide +kernel
theorem dX10_byTurns_51 : decode cX10_byTurns 51 = .ok (.aload_n 0, 1) := by decide +kernel
theorem dX10_byTurns_52 : decode cX10_byTurns 52 = .ok (.getfield 42, 3) := by decide +kernel
theorem dX10_byTurns_55 : decode cX10_byTurns 55 = .ok (.bipush 8, 2) := by decide +kernel
theorem dX10_byTurns_57 : decode cX10_byTurns 57 = .ok (.iload_n 1, 1) := by decide +kernel
theorem dX10_byTurns_58 : decode cX10_byTurns 58 = .ok (.imul, 1) := by decide +kernel
theorem dX10_byTurns_59 : decode cX10_byTurns 59 = .ok (.iload_n 2, 1) := by decide +kernel
theorem dX10_byTurns_60 : decode cX10_byTurns 60 = .ok (.iadd, 1) := by decide +kernel
theorem dX10_byTurns_61 : decode cX10_byTurns 61 = .ok (.dup2, 1) := by decide +kernel
theorem dX10_byTurns_62 : decode cX10_byTurns 62 = .ok (.iaload, 1) := by decide +kernel
theorem dX10_byTurns_63 : decode cX10_byTurns 63 = .ok (.iconst 1, 1) := by decide +kernel
theorem dX10_byTurns_64 : decode cX10_byTurns 64 = .ok (.iadd, 1) := by decide +kernel
theorem dX10_byTurns_65 : decode cX10_byTurns 65 = .ok (.iastore, 1) := by decide +kernel
theorem dX10_byTurns_66 : decode cX10_byTurns 66 = .ok (.aload_n 0, 1) := by decide +kernel
theorem dX10_byTurns_67 : decode cX10_byTurns 67 = .ok (.iload_n 1, 1) := by decide +kernel
theorem dX10_byTurns_68 : decode cX10_byTurns 68 = .ok (.iload_n 2, 1) := by decide +kernel
theorem dX10_byTurns_69 : decode cX10_byTurns 69 = .ok (.invokevirtual 334, 3) := by decide +kernel
theorem dX10_byTurns_72 : decode cX10_byTurns 72 = .ok (.ireturn, 1) := by decide +kernel
abbrev j10_byTurns : xJ := (cX10_byTurns, 4, RX10, 5, 0, 0)
def F10_byTurns_b51 (z : Nat) (x1 : Int32) (x2 : Int32) (c_told : (Nat → Int32)) (c_many : (Nat → Int32)) (c_eights : (Nat → Int32)) (c_turns : (Nat → Int32)) (c_drawn : (Nat → Int32)) : Option (Int32 × (Nat → Int32) × (Nat → Int32)) :=
  xg (xin (((8 : Int32) * x1) + x2) 16) (xg (xin (((8 : Int32) * x1) + x2) 16) ((F10_planAt z x1 x2 c_told c_many c_eights).bind (fun v69 => some (v69, c_turns, (upd c_drawn (xn (((8 : Int32) * x1) + x2)) ((c_drawn (xn (((8 : Int32) * x1) + x2))) + (1 : Int32)))))))
theorem T10_byTurns_b51 {X : xX} {c_thrown : Int32} {c_read : (Nat → Int32)} {c_gains : (Nat → Int32)} {c_notes : (Nat → Int32)} {c_seen : (Nat → Int32)} {c_state : Int32} {c_tape : (Nat → Int32)} {c_taped : Int32} {c_size : Int32} {c_from : Int32} {c_next : Int32} {c_token : Int32} {c_value : Int32} {c_fault : Int32} {c_number : Int32} {c_fives : (Nat → Int32)} {c_isLeft : (Nat → Int32)} {c_wentTimes : Int32} {c_goes : (Nat → Int32)} {c_isLeftLaid : Int32} {c_game : (Nat → Int32)} {c_rows : Int32} {c_columns : Int32} {c_isFound : Int32} {c_bestValue : Int64} {c_bestBelow : Int64} {c_bestShare : (Nat → Int64)} {c_share : (Nat → Int64)} {c_matrix : (Nat → Int64)} {c_system : (Nat → Int64)} {c_shares : (Nat → Int32)} {c_allShares : Int32} {x1 : Int32} {x2 : Int32} {c_told : (Nat → Int32)} {c_many : (Nat → Int32)} {c_eights : (Nat → Int32)} {c_turns : (Nat → Int32)} {c_drawn : (Nat → Int32)} {z : Nat} {v : Int32 × (Nat → Int32) × (Nat → Int32)} (hX : xIs (j10_byTurns) X ((some .int)) (some (.int v.1)) (hM c_thrown c_told c_read c_many c_eights c_gains c_notes c_seen v.2.1 v.2.2 c_state c_tape c_taped c_size c_from c_next c_token c_value c_fault c_number c_fives c_isLeft c_wentTimes c_goes c_isLeftLaid c_game c_rows c_columns c_isFound c_bestValue c_bestBelow c_bestShare c_share c_matrix c_system c_shares c_allShares)) (hf : F10_byTurns_b51 z x1 x2 c_told c_many c_eights c_turns c_drawn = some v) : xV (j10_byTurns) X 0 0 (hM c_thrown c_told c_read c_many c_eights c_gains c_notes c_seen c_turns c_drawn c_state c_tape c_taped c_size c_from c_next c_token c_value c_fault c_number c_fives c_isLeft c_wentTimes c_goes c_isLeftLaid c_game c_rows c_columns c_isFound c_bestValue c_bestBelow c_bestShare c_share c_matrix c_system c_shares c_allShares) 51 [(0, .ref 0), (1, .int x1), (2, .int x2)] [] := by
  unfold F10_byTurns_b51 at hf
  refine xV_aload_n 52 rfl dX10_byTurns_51 rfl 0 rfl ?_
  refine xV_get (v := .ref 9) 55 rfl dX10_byTurns_52 f10_42 rfl rfl ?_
  refine xV_bipush 57 rfl dX10_byTurns_55 xk_b8 ?_
  refine xV_iload_n 58 rfl dX10_byTurns_57 rfl 1 rfl ?_
  refine xV_imul 59 rfl dX10_byTurns_58 ?_
  refine xV_iload_n 60 rfl dX10_byTurns_59 rfl 2 rfl ?_
  refine xV_iadd 61 rfl dX10_byTurns_60 ?_
  refine xV_dup2 62 rfl dX10_byTurns_61 rfl rfl ?_
  obtain ⟨hg62, hf⟩ := xg_s hf
  refine xV_iaload 63 rfl dX10_byTurns_62 rfl (xin_ok hg62) rfl ?_
  refine xV_iconst 64 rfl dX10_byTurns_63 xk_i1 ?_
  refine xV_iadd 65 rfl dX10_byTurns_64 ?_
  obtain ⟨hg65, hf⟩ := xg_s hf
  refine xV_iastore (h' := (hM c_thrown c_told c_read c_many c_eights c_gains c_notes c_seen c_turns (upd c_drawn (xn (((8 : Int32) * x1) + x2)) ((c_drawn (xn (((8 : Int32) * x1) + x2))) + (1 : Int32))) c_state c_tape c_taped c_size c_from c_next c_token c_value c_fault c_number c_fives c_isLeft c_wentTimes c_goes c_isLeftLaid c_game c_rows c_columns c_isFound c_bestValue c_bestBelow c_bestShare c_share c_matrix c_system c_shares c_allShares)) 66 rfl dX10_byTurns_65 rfl (xin_ok hg65) rfl rfl ?_
  refine xV_aload_n 67 rfl dX10_byTurns_66 rfl 0 rfl ?_
  refine xV_iload_n 68 rfl dX10_byTurns_67 rfl 1 rfl ?_
  refine xV_iload_n 69 rfl dX10_byTurns_68 rfl 2 rfl ?_
  obtain ⟨v69, hv69, hf⟩ := xb_s hf
  refine xV_same (rest := []) 72 rfl dX10_byTurns_69 rfl (C10_planAt X.1.2.1 hv69) m10_planAt v10_planAt k10_334 rfl rfl rfl rfl rfl (Nat.le_of_ble_eq_true rfl) (Nat.le_of_ble_eq_true rfl) (Nat.le_of_ble_eq_true rfl) ⟨Nat.le_refl _, Nat.le_refl _⟩ ?_
  show xV (j10_byTurns) X 0 0 (hM c_thrown c_told c_read c_many c_eights c_gains c_notes c_seen c_turns (upd c_drawn (xn (((8 : Int32) * x1) + x2)) ((c_drawn (xn (((8 : Int32) * x1) + x2))) + (1 : Int32))) c_state c_tape c_taped c_size c_from c_next c_token c_value c_fault c_number c_fives c_isLeft c_wentTimes c_goes c_isLeftLaid c_game c_rows c_columns c_isFound c_bestValue c_bestBelow c_bestShare c_share c_matrix c_system c_shares c_allShares) 72 [(0, .ref 0), (1, .int x1), (2, .int x2)] [.int v69]
  obtain rfl := Option.some.inj hf
  exact xV_iret hX dX10_byTurns_72 rfl (Nat.zero_le _) (Nat.zero_le _)
def F10_byTurns_b44 (z : Nat) (x1 : Int32) (x3 : Int32) (s0 : Int32) (c_told : (Nat → Int32)) (c_many : (Nat → Int32)) (c_eights : (Nat → Int32)) (c_turns : (Nat → Int32)) (c_drawn : (Nat → Int32)) (k14 : Int32 → Int32 → Int32 → (Nat → Int32) → (Nat → Int32) → (Nat → Int32) → (Nat → Int32) → (Nat → Int32) → Option (Int32 × (Nat → Int32) × (Nat → Int32))) : Option (Int32 × (Nat → Int32) × (Nat → Int32)) :=
  k14 x1 s0 (x3 + (1 : Int32)) c_told c_many c_eights c_turns c_drawn
theorem T10_byTurns_b44 {X : xX} {c_thrown : Int32} {c_read : (Nat → Int32)} {c_gains : (Nat → Int32)} {c_notes : (Nat → Int32)} {c_seen : (Nat → Int32)} {c_state : Int32} {c_tape : (Nat → Int32)} {c_taped : Int32} {c_size : Int32} {c_from : Int32} {c_next : Int32} {c_token : Int32} {c_value : Int32} {c_fault : Int32} {c_number : Int32} {c_fives : (Nat → Int32)} {c_isLeft : (Nat → Int32)} {c_wentTimes : Int32} {c_goes : (Nat → Int32)} {c_isLeftLaid : Int32} {c_game : (Nat → Int32)} {c_rows : Int32} {c_columns : Int32} {c_isFound : Int32} {c_bestValue : Int64} {c_bestBelow : Int64} {c_bestShare : (Nat → Int64)} {c_share : (Nat → Int64)} {c_matrix : (Nat → Int64)} {c_system : (Nat → Int64)} {c_shares : (Nat → Int32)} {c_allShares : Int32} {x1 : Int32} {x3 : Int32} {s0 : Int32} {c_told : (Nat → Int32)} {c_many : (Nat → Int32)} {c_eights : (Nat → Int32)} {c_turns : (Nat → Int32)} {c_drawn : (Nat → Int32)} {z : Nat} {v : Int32 × (Nat → Int32) × (Nat → Int32)} {k14 : Int32 → Int32 → Int32 → (Nat → Int32) → (Nat → Int32) → (Nat → Int32) → (Nat → Int32) → (Nat → Int32) → Option (Int32 × (Nat → Int32) × (Nat → Int32))} (hX : xIs (j10_byTurns) X ((some .int)) (some (.int v.1)) (hM c_thrown c_told c_read c_many c_eights c_gains c_notes c_seen v.2.1 v.2.2 c_state c_tape c_taped c_size c_from c_next c_token c_value c_fault c_number c_fives c_isLeft c_wentTimes c_goes c_isLeftLaid c_game c_rows c_columns c_isFound c_bestValue c_bestBelow c_bestShare c_share c_matrix c_system c_shares c_allShares)) (hk14 : ∀ {x1 : Int32} {x2 : Int32} {x3 : Int32} {c_turns : (Nat → Int32)} {c_drawn : (Nat → Int32)}, k14 x1 x2 x3 c_told c_many c_eights c_turns c_drawn = some v → xV (j10_byTurns) X 0 0 (hM c_thrown c_told c_read c_many c_eights c_gains c_notes c_seen c_turns c_drawn c_state c_tape c_taped c_size c_from c_next c_token c_value c_fault c_number c_fives c_isLeft c_wentTimes c_goes c_isLeftLaid c_game c_rows c_columns c_isFound c_bestValue c_bestBelow c_bestShare c_share c_matrix c_system c_shares c_allShares) 14 [(0, .ref 0), (1, .int x1), (2, .int x2), (3, .int x3)] []) (hf : F10_byTurns_b44 z x1 x3 s0 c_told c_many c_eights c_turns c_drawn k14 = some v) : xV (j10_byTurns) X 0 0 (hM c_thrown c_told c_read c_many c_eights c_gains c_notes c_seen c_turns c_drawn c_state c_tape c_taped c_size c_from c_next c_token c_value c_fault c_number c_fives c_isLeft c_wentTimes c_goes c_isLeftLaid c_game c_rows c_columns c_isFound c_bestValue c_bestBelow c_bestShare c_share c_matrix c_system c_shares c_allShares) 44 [(0, .ref 0), (1, .int x1), (3, .int x3)] [.int s0] := by
  unfold F10_byTurns_b44 at hf
  refine xV_istore_n (L' := [(2, .int s0), (0, .ref 0), (1, .int x1), (3, .int x3)]) 45 rfl dX10_byTurns_44 rfl (xlt rfl) rfl ?_
  refine xV_iinc (L' := [(3, .int (x3 + (1 : Int32))), (2, .int s0), (0, .ref 0), (1, .int x1)]) 48 rfl dX10_byTurns_45 3 rfl (xk_inc xk_i1) (xlt rfl) rfl ?_
  refine xV_goto (tgt := 14) dX10_byTurns_48 (by decide) ?_
  refine xV_sub [2, 3, 1, 0] rfl ?_
  exact hk14 hf
def F10_byTurns_b14 (z : Nat) (w : Nat) (x1 : Int32) (x2 : Int32) (x3 : Int32) (c_told : (Nat → Int32)) (c_many : (Nat → Int32)) (c_eights : (Nat → Int32)) (c_turns : (Nat → Int32)) (c_drawn : (Nat → Int32)) : Option (Int32 × (Nat → Int32) × (Nat → Int32)) := match w with
  | 0 => none
  | w + 1 => (F10_planned x1 c_told).bind (fun v17 => if v17 ≤ x3 then (F10_byTurns_b51 z x1 x2 c_told c_many c_eights c_turns c_drawn) else ((F10_due z x1 x3 c_told c_turns c_drawn).bind (fun v26 => (F10_due z x1 x2 c_told c_turns c_drawn).bind (fun v32 => if (lg_cmp v26 v32) ≤ 0 then (F10_byTurns_b44 z x1 x3 x2 c_told c_many c_eights c_turns c_drawn (fun q0 q1 q2 q3 q4 q5 q6 q7 => F10_byTurns_b14 z w q0 q1 q2 q3 q4 q5 q6 q7)) else (F10_byTurns_b44 z x1 x3 x3 c_told c_many c_eights c_turns c_drawn (fun q0 q1 q2 q3 q4 q5 q6 q7 => F10_byTurns_b14 z w q0 q1 q2 q3 q4 q5 q6 q7))))))
theorem T10_byTurns_b14 {X : xX} {c_thrown : Int32} {c_told : (Nat → Int32)} {c_read : (Nat → Int32)} {c_many : (Nat → Int32)} {c_eights : (Nat → Int32)} {c_gains : (Nat → Int32)} {c_notes : (Nat → Int32)} {c_seen : (Nat → Int32)} {c_state : Int32} {c_tape : (Nat → Int32)} {c_taped : Int32} {c_size : Int32} {c_from : Int32} {c_next : Int32} {c_token : Int32} {c_value : Int32} {c_fault : Int32} {c_number : Int32} {c_fives : (Nat → Int32)} {c_isLeft : (Nat → Int32)} {c_wentTimes : Int32} {c_goes : (Nat → Int32)} {c_isLeftLaid : Int32} {c_game : (Nat → Int32)} {c_rows : Int32} {c_columns : Int32} {c_isFound : Int32} {c_bestValue : Int64} {c_bestBelow : Int64} {c_bestShare : (Nat → Int64)} {c_share : (Nat → Int64)} {c_matrix : (Nat → Int64)} {c_system : (Nat → Int64)} {c_shares : (Nat → Int32)} {c_allShares : Int32} {z : Nat} {v : Int32 × (Nat → Int32) × (Nat → Int32)} (hX : xIs (j10_byTurns) X ((some .int)) (some (.int v.1)) (hM c_thrown c_told c_read c_many c_eights c_gains c_notes c_seen v.2.1 v.2.2 c_state c_tape c_taped c_size c_from c_next c_token c_value c_fault c_number c_fives c_isLeft c_wentTimes c_goes c_isLeftLaid c_game c_rows c_columns c_isFound c_bestValue c_bestBelow c_bestShare c_share c_matrix c_system c_shares c_allShares)) : ∀ (w : Nat) {x1 : Int32} {x2 : Int32} {x3 : Int32} {c_turns : (Nat → Int32)} {c_drawn : (Nat → Int32)}, F10_byTurns_b14 z w x1 x2 x3 c_told c_many c_eights c_turns c_drawn = some v → xV (j10_byTurns) X 0 0 (hM c_thrown c_told c_read c_many c_eights c_gains c_notes c_seen c_turns c_drawn c_state c_tape c_taped c_size c_from c_next c_token c_value c_fault c_number c_fives c_isLeft c_wentTimes c_goes c_isLeftLaid c_game c_rows c_columns c_isFound c_bestValue c_bestBelow c_bestShare c_share c_matrix c_system c_shares c_allShares) 14 [(0, .ref 0), (1, .int x1), (2, .int x2), (3, .int x3)] [] := by
  intro w
  induction w with
  | zero => intro x1 x2 x3 c_turns c_drawn hf; cases hf
  | succ w ih =>
    intro x1 x2 x3 c_turns c_drawn hf
    unfold F10_byTurns_b14 at hf
    refine xV_iload_n 15 rfl dX10_byTurns_14 rfl 3 rfl ?_
    refine xV_aload_n 16 rfl dX10_byTurns_15 rfl 0 rfl ?_
    refine xV_iload_n 17 rfl dX10_byTurns_16 rfl 1 rfl ?_
    obtain ⟨v17, hv17, hf⟩ := xb_s hf
    refine xV_same (rest := [.int x3]) 20 rfl dX10_byTurns_17 rfl (C10_planned X.1.2.1 hv17) m10_planned v10_planned k10_328 rfl rfl rfl rfl rfl (Nat.le_of_ble_eq_true rfl) (Nat.le_of_ble_eq_true rfl) (Nat.le_of_ble_eq_true rfl) ⟨Nat.le_refl _, Nat.le_refl _⟩ ?_
    show xV (j10_byTurns) X 0 0 (hM c_thrown c_told c_read c_many c_eights c_gains c_notes c_seen c_turns c_drawn c_state c_tape c_taped c_size c_from c_next c_token c_value c_fault c_number c_fives c_isLeft c_wentTimes c_goes c_isLeftLaid c_game c_rows c_columns c_isFound c_bestValue c_bestBelow c_bestShare c_share c_matrix c_system c_shares c_allShares) 20 [(0, .ref 0), (1, .int x1), (2, .int x2), (3, .int x3)] [.int v17, .int x3]
    refine xV_icmp_ge (tgt := 51) 23 rfl dX10_byTurns_20 (by decide) (fun h20 => ?_) (fun h20 => ?_)
    · have hf := xif_t hf h20
      refine xV_sub [0, 1, 2] rfl ?_
      exact T10_byTurns_b51 hX hf
    · have hf := xif_f hf h20
      refine xV_aload_n 24 rfl dX10_byTurns_23 rfl 0 rfl ?_
      refine xV_iload_n 25 rfl dX10_byTurns_24 rfl 1 rfl ?_
      refine xV_iload_n 26 rfl dX10_byTurns_25 rfl 3 rfl ?_
      obtain ⟨v26, hv26, hf⟩ := xb_s hf
      refine xV_same (rest := []) 29 rfl dX10_byTurns_26 rfl (C10_due X.1.2.1 hv26) m10_due v10_due k10_368 rfl rfl rfl rfl rfl (Nat.le_of_ble_eq_true rfl) (Nat.le_of_ble_eq_true rfl) (Nat.le_of_ble_eq_true rfl) ⟨Nat.le_refl _, Nat.le_refl _⟩ ?_
      show xV (j10_byTurns) X 0 0 (hM c_thrown c_told c_read c_many c_eights c_gains c_notes c_seen c_turns c_drawn c_state c_tape c_taped c_size c_from c_next c_token c_value c_fault c_number c_fives c_isLeft c_wentTimes c_goes c_isLeftLaid c_game c_rows c_columns c_isFound c_bestValue c_bestBelow c_bestShare c_share c_matrix c_system c_shares c_allShares) 29 [(0, .ref 0), (1, .int x1), (2, .int x2), (3, .int x3)] [.long v26]
      refine xV_aload_n 30 rfl dX10_byTurns_29 rfl 0 rfl ?_
      refine xV_iload_n 31 rfl dX10_byTurns_30 rfl 1 rfl ?_
      refine xV_iload_n 32 rfl dX10_byTurns_31 rfl 2 rfl ?_
      obtain ⟨v32, hv32, hf⟩ := xb_s hf
      refine xV_same (rest := [.long v26]) 35 rfl dX10_byTurns_32 rfl (C10_due X.1.2.1 hv32) m10_due v10_due k10_368 rfl rfl rfl rfl rfl (Nat.le_of_ble_eq_true rfl) (Nat.le_of_ble_eq_true rfl) (Nat.le_of_ble_eq_true rfl) ⟨Nat.le_refl _, Nat.le_refl _⟩ ?_
      show xV (j10_byTurns) X 0 0 (hM c_thrown c_told c_read c_many c_eights c_gains c_notes c_seen c_turns c_drawn c_state c_tape c_taped c_size c_from c_next c_token c_value c_fault c_number c_fives c_isLeft c_wentTimes c_goes c_isLeftLaid c_game c_rows c_columns c_isFound c_bestValue c_bestBelow c_bestShare c_share c_matrix c_system c_shares c_allShares) 35 [(0, .ref 0), (1, .int x1), (2, .int x2), (3, .int x3)] [.long v32, .long v26]
      refine xV_lcmp 36 rfl dX10_byTurns_35 ?_
      refine xV_if_le (tgt := 43) 39 rfl dX10_byTurns_36 (by decide) (fun h36 => ?_) (fun h36 => ?_)
      · have hf := xif_t hf h36
        refine xV_iload_n 44 rfl dX10_byTurns_43 rfl 2 rfl ?_
        refine xV_sub [0, 1, 3] rfl ?_
        exact T10_byTurns_b44 hX (fun {_ _ _ _ _} hq => ih hq) hf
      · have hf := xif_f hf h36
        refine xV_iload_n 40 rfl dX10_byTurns_39 rfl 3 rfl ?_
        refine xV_goto (tgt := 44) dX10_byTurns_40 (by decide) ?_
        refine xV_sub [0, 1, 3] rfl ?_
        exact T10_byTurns_b44 hX (fun {_ _ _ _ _} hq => ih hq) hf
def F10_byTurns (z : Nat) (x1 : Int32) (c_told : (Nat → Int32)) (c_many : (Nat → Int32)) (c_eights : (Nat → Int32)) (c_turns : (Nat → Int32)) (c_drawn : (Nat → Int32)) : Option (Int32 × (Nat → Int32) × (Nat → Int32)) :=
  xg (xin x1 2) (xg (xin x1 2) (F10_byTurns_b14 z z x1 (0 : Int32) (1 : Int32) c_told c_many c_eights (upd c_turns (xn x1) ((c_turns (xn x1)) + (1 : Int32))) c_drawn))
theorem T10_byTurns {X : xX} {z : Nat} {x1 : Int32} {c_told : (Nat → Int32)} {c_many : (Nat → Int32)} {c_eights : (Nat → Int32)} {c_turns : (Nat → Int32)} {c_drawn : (Nat → Int32)} {c_thrown : Int32} {c_read : (Nat → Int32)} {c_gains : (Nat → Int32)} {c_notes : (Nat → Int32)} {c_seen : (Nat → Int32)} {c_state : Int32} {c_tape : (Nat → Int32)} {c_taped : Int32} {c_size : Int32} {c_from : Int32} {c_next : Int32} {c_token : Int32} {c_value : Int32} {c_fault : Int32} {c_number : Int32} {c_fives : (Nat → Int32)} {c_isLeft : (Nat → Int32)} {c_wentTimes : Int32} {c_goes : (Nat → Int32)} {c_isLeftLaid : Int32} {c_game : (Nat → Int32)} {c_rows : Int32} {c_columns : Int32} {c_isFound : Int32} {c_bestValue : Int64} {c_bestBelow : Int64} {c_bestShare : (Nat → Int64)} {c_share : (Nat → Int64)} {c_matrix : (Nat → Int64)} {c_system : (Nat → Int64)} {c_shares : (Nat → Int32)} {c_allShares : Int32} {v : Int32 × (Nat → Int32) × (Nat → Int32)} (hX : xIs (j10_byTurns) X ((some .int)) (some (.int v.1)) (hM c_thrown c_told c_read c_many c_eights c_gains c_notes c_seen v.2.1 v.2.2 c_state c_tape c_taped c_size c_from c_next c_token c_value c_fault c_number c_fives c_isLeft c_wentTimes c_goes c_isLeftLaid c_game c_rows c_columns c_isFound c_bestValue c_bestBelow c_bestShare c_share c_matrix c_system c_shares c_allShares)) (hf : F10_byTurns z x1 c_told c_many c_eights c_turns c_drawn = some v) : xV (j10_byTurns) X 0 0 (hM c_thrown c_told c_read c_many c_eights c_gains c_notes c_seen c_turns c_drawn c_state c_tape c_taped c_size c_from c_next c_token c_value c_fault c_number c_fives c_isLeft c_wentTimes c_goes c_isLeftLaid c_game c_rows c_columns c_isFound c_bestValue c_bestBelow c_bestShare c_share c_matrix c_system c_shares c_allShares) 0 [(0, .ref 0), (1, .int x1)] [] := by
  unfold F10_byTurns at hf
  refine xV_aload_n 1 rfl dX10_byTurns_0 rfl 0 rfl ?_
  refine xV_get (v := .ref 8) 4 rfl dX10_byTurns_1 f10_39 rfl rfl ?_
  refine xV_iload_n 5 rfl dX10_byTurns_4 rfl 1 rfl ?_
  refine xV_dup2 6 rfl dX10_byTurns_5 rfl rfl ?_
  obtain ⟨hg6, hf⟩ := xg_s hf
  refine xV_iaload 7 rfl dX10_byTurns_6 rfl (xin_ok hg6) rfl ?_
  refine xV_iconst 8 rfl dX10_byTurns_7 xk_i1 ?_
  refine xV_iadd 9 rfl dX10_byTurns_8 ?_
  obtain ⟨hg9, hf⟩ := xg_s hf
  refine xV_iastore (h' := (hM c_thrown c_told c_read c_many c_eights c_gains c_notes c_seen (upd c_turns (xn x1) ((c_turns (xn x1)) + (1 : Int32))) c_drawn c_state c_tape c_taped c_size c_from c_next c_token c_value c_fault c_number c_fives c_isLeft c_wentTimes c_goes c_isLeftLaid c_game c_rows c_columns c_isFound c_bestValue c_bestBelow c_bestShare c_share c_matrix c_system c_shares c_allShares)) 10 rfl dX10_byTurns_9 rfl (xin_ok hg9) rfl rfl ?_
  refine xV_iconst 11 rfl dX10_byTurns_10 xk_i0 ?_
  refine xV_istore_n (L' := [(2, .int (0 : Int32)), (0, .ref 0), (1, .int x1)]) 12 rfl dX10_byTurns_11 rfl (xlt rfl) rfl ?_
  refine xV_iconst 13 rfl dX10_byTurns_12 xk_i1 ?_
  refine xV_istore_n (L' := [(3, .int (1 : Int32)), (2, .int (0 : Int32)), (0, .ref 0), (1, .int x1)]) 14 rfl dX10_byTurns_13 rfl (xlt rfl) rfl ?_
  refine xV_sub [2, 3, 1, 0] rfl ?_
  exact T10_byTurns_b14 hX _ hf
theorem C10_byTurns (l : Launch) {z : Nat} {x1 : Int32} {c_told : (Nat → Int32)} {c_many : (Nat → Int32)} {c_eights : (Nat → Int32)} {c_turns : (Nat → Int32)} {c_drawn : (Nat → Int32)} {c_thrown : Int32} {c_read : (Nat → Int32)} {c_gains : (Nat → Int32)} {c_notes : (Nat → Int32)} {c_seen : (Nat → Int32)} {c_state : Int32} {c_tape : (Nat → Int32)} {c_taped : Int32} {c_size : Int32} {c_from : Int32} {c_next : Int32} {c_token : Int32} {c_value : Int32} {c_fault : Int32} {c_number : Int32} {c_fives : (Nat → Int32)} {c_isLeft : (Nat → Int32)} {c_wentTimes : Int32} {c_goes : (Nat → Int32)} {c_isLeftLaid : Int32} {c_game : (Nat → Int32)} {c_rows : Int32} {c_columns : Int32} {c_isFound : Int32} {c_bestValue : Int64} {c_bestBelow : Int64} {c_bestShare : (Nat → Int64)} {c_share : (Nat → Int64)} {c_matrix : (Nat → Int64)} {c_system : (Nat → Int64)} {c_shares : (Nat → Int32)} {c_allShares : Int32} {v : Int32 × (Nat → Int32) × (Nat → Int32)} (hf : F10_byTurns z x1 c_told c_many c_eights c_turns c_drawn = some v) : xCt l yX10_byTurns ((some .int)) j10_byTurns [.ref 0, .int x1] (hM c_thrown c_told c_read c_many c_eights c_gains c_notes c_seen c_turns c_drawn c_state c_tape c_taped c_size c_from c_next c_token c_value c_fault c_number c_fives c_isLeft c_wentTimes c_goes c_isLeftLaid c_game c_rows c_columns c_isFound c_bestValue c_bestBelow c_bestShare c_share c_matrix c_system c_shares c_allShares) (some (.int v.1)) (hM c_thrown c_told c_read c_many c_eights c_gains c_notes c_seen v.2.1 v.2.2 c_state c_tape c_taped c_size c_from c_next c_token c_value c_fault c_number c_fives c_isLeft c_wentTimes c_goes c_isLeftLaid c_game c_rows c_columns c_isFound c_bestValue c_bestBelow c_bestShare c_share c_matrix c_system c_shares c_allShares) := xCt_of (by decide) rfl (Nat.le_of_ble_eq_true rfl) (fun _ hX => T10_byTurns hX hf)
theorem m10_byTurns : xMd yX10_byTurns RX10 ((some .int)) j10_byTurns 1 := ⟨List.mem_of_getElem? (i := 1230) (by decide +kernel), List.mem_of_getElem? (i := 5) (by decide +kernel), rfl, by decide +kernel⟩
theorem v10_byTurns : xMv yX10_byTurns RX10 := ⟨List.mem_of_getElem? (i := 1228) (by decide +kernel), List.mem_of_getElem? (i := 1229) (by decide +kernel)⟩
theorem k10_371 : Cond.methodLink RX10 371 yX10_byTurns ∈ wsL_law0 := List.mem_of_getElem? (i := 1227) (by decide +kernel)
theorem k10_374 : Cond.methodLink RX10 374 yX10_byChance ∈ wsL_law0 := List.mem_of_getElem? (i := 1235) (by decide +kernel)
theorem dX10_draw_0 : decode cX10_draw 0 = .ok (.aload_n 0, 1) := by decide +kernel
theorem dX10_draw_1 : decode cX10_draw 1 = .ok (.iconst 0, 1) := by decide +kernel
theorem dX10_draw_2 : decode cX10_draw 2 = .ok (.putfield 1, 3) := by decide +kernel
theorem dX10_draw_5 : decode cX10_draw 5 = .ok (.aload_n 0, 1) := by decide +kernel
theorem dX10_draw_6 : decode cX10_draw 6 = .ok (.iload_n 1, 1) := by decide +kernel
theorem dX10_draw_7 : decode cX10_draw 7 = .ok (.invokevirtual 349, 3) := by decide +kernel
theorem dX10_draw_10 : decode cX10_draw 10 = .ok (.ifCond .ne 5, 3) := by decide +kernel
theorem dX10_draw_13 : decode cX10_draw 13 = .ok (.iconst (-1), 1) := by decide +kernel
theorem dX10_draw_14 : decode cX10_draw 14 = .ok (.ireturn, 1) := by decide +kernel
theorem dX10_draw_15 : decode cX10_draw 15 = .ok (.iload_n 2, 1) := by decide +kernel
theorem dX10_draw_16 : decode cX10_draw 16 = .ok (.ifCond .eq 11, 3) := by decide +kernel
theorem dX10_draw_19 : decode cX10_draw 19 = .ok (.aload_n 0, 1) := by decide +kernel
theorem dX10_draw_20 : decode cX10_draw 20 = .ok (.iload_n 1, 1) := by decide +kernel
theorem dX10_draw_21 : decode cX10_draw 21 = .ok (.invokevirtual 371, 3) := by decide +kernel
theorem dX10_draw_24 : decode cX10_draw 24 = .ok (.goto 8, 3) := by decide +kernel
theorem dX10_draw_27 : decode cX10_draw 27 = .ok (.aload_n 0, 1) := by decide +kernel
theorem dX10_draw_28 : decode cX10_draw 28 = .ok (.iload_n 1, 1) := by decide +kernel
theorem dX10_draw_29 : decode cX10_draw 29 = .ok (.invokevirtual 374, 3) := by decide +kernel
theorem dX10_draw_32 : decode cX10_draw 32 = .ok (.ireturn, 1) := by decide +kernel
abbrev j10_draw : xJ := (cX10_draw, 3, RX10, 6, 0, 0)
def F10_draw (z : Nat) (x1 : Int32) (x2 : Int32) (c_thrown : Int32) (c_told : (Nat → Int32)) (c_many : (Nat → Int32)) (c_eights : (Nat → Int32)) (c_turns : (Nat → Int32)) (c_drawn : (Nat → Int32)) (c_state : Int32) : Option (Int32 × Int32 × (Nat → Int32) × (Nat → Int32) × Int32) :=
  (F10_hasPlan x1 c_told).bind (fun v7 => if v7 = 0 then (some ((-1 : Int32), (0 : Int32), c_turns, c_drawn, c_state)) else (if x2 = 0 then ((F10_byChance z x1 c_told c_many c_eights c_state).bind (fun v29 => some (v29.1, (0 : Int32), c_turns, c_drawn, v29.2))) else ((F10_byTurns z x1 c_told c_many c_eights c_turns c_drawn).bind (fun v21 => some (v21.1, (0 : Int32), v21.2.1, v21.2.2, c_state)))))
theorem T10_draw {X : xX} {z : Nat} {x1 : Int32} {x2 : Int32} {c_thrown : Int32} {c_told : (Nat → Int32)} {c_many : (Nat → Int32)} {c_eights : (Nat → Int32)} {c_turns : (Nat → Int32)} {c_drawn : (Nat → Int32)} {c_state : Int32} {c_read : (Nat → Int32)} {c_gains : (Nat → Int32)} {c_notes : (Nat → Int32)} {c_seen : (Nat → Int32)} {c_tape : (Nat → Int32)} {c_taped : Int32} {c_size : Int32} {c_from : Int32} {c_next : Int32} {c_token : Int32} {c_value : Int32} {c_fault : Int32} {c_number : Int32} {c_fives : (Nat → Int32)} {c_isLeft : (Nat → Int32)} {c_wentTimes : Int32} {c_goes : (Nat → Int32)} {c_isLeftLaid : Int32} {c_game : (Nat → Int32)} {c_rows : Int32} {c_columns : Int32} {c_isFound : Int32} {c_bestValue : Int64} {c_bestBelow : Int64} {c_bestShare : (Nat → Int64)} {c_share : (Nat → Int64)} {c_matrix : (Nat → Int64)} {c_system : (Nat → Int64)} {c_shares : (Nat → Int32)} {c_allShares : Int32} {v : Int32 × Int32 × (Nat → Int32) × (Nat → Int32) × Int32} (hX : xIs (j10_draw) X ((some .int)) (some (.int v.1)) (hM v.2.1 c_told c_read c_many c_eights c_gains c_notes c_seen v.2.2.1 v.2.2.2.1 v.2.2.2.2 c_tape c_taped c_size c_from c_next c_token c_value c_fault c_number c_fives c_isLeft c_wentTimes c_goes c_isLeftLaid c_game c_rows c_columns c_isFound c_bestValue c_bestBelow c_bestShare c_share c_matrix c_system c_shares c_allShares)) (hf : F10_draw z x1 x2 c_thrown c_told c_many c_eights c_turns c_drawn c_state = some v) : xV (j10_draw) X 0 0 (hM c_thrown c_told c_read c_many c_eights c_gains c_notes c_seen c_turns c_drawn c_state c_tape c_taped c_size c_from c_next c_token c_value c_fault c_number c_fives c_isLeft c_wentTimes c_goes c_isLeftLaid c_game c_rows c_columns c_isFound c_bestValue c_bestBelow c_bestShare c_share c_matrix c_system c_shares c_allShares) 0 [(0, .ref 0), (1, .int x1), (2, .int x2)] [] := by
  unfold F10_draw at hf
  refine xV_aload_n 1 rfl dX10_draw_0 rfl 0 rfl ?_
  refine xV_iconst 2 rfl dX10_draw_1 xk_i0 ?_
  refine xV_put (h' := (hM (0 : Int32) c_told c_read c_many c_eights c_gains c_notes c_seen c_turns c_drawn c_state c_tape c_taped c_size c_from c_next c_token c_value c_fault c_number c_fives c_isLeft c_wentTimes c_goes c_isLeftLaid c_game c_rows c_columns c_isFound c_bestValue c_bestBelow c_bestShare c_share c_matrix c_system c_shares c_allShares)) 5 rfl dX10_draw_2 f10_1 rfl nf10_0 (fun _ => rfl) (fun _ => rfl) (Nat.le_of_ble_eq_true rfl) rfl ?_
  refine xV_aload_n 6 rfl dX10_draw_5 rfl 0 rfl ?_
  refine xV_iload_n 7 rfl dX10_draw_6 rfl 1 rfl ?_
  obtain ⟨v7, hv7, hf⟩ := xb_s hf
  refine xV_same (rest := []) 10 rfl dX10_draw_7 rfl (C10_hasPlan X.1.2.1 hv7) m10_hasPlan v10_hasPlan k10_349 rfl rfl rfl rfl rfl (Nat.le_of_ble_eq_true rfl) (Nat.le_of_ble_eq_true rfl) (Nat.le_of_ble_eq_true rfl) ⟨Nat.le_refl _, Nat.le_refl _⟩ ?_
  show xV (j10_draw) X 0 0 (hM (0 : Int32) c_told c_read c_many c_eights c_gains c_notes c_seen c_turns c_drawn c_state c_tape c_taped c_size c_from c_next c_token c_value c_fault c_number c_fives c_isLeft c_wentTimes c_goes c_isLeftLaid c_game c_rows c_columns c_isFound c_bestValue c_bestBelow c_bestShare c_share c_matrix c_system c_shares c_allShares) 10 [(0, .ref 0), (1, .int x1), (2, .int x2)] [.int v7]
  refine xV_if_ne (tgt := 15) 13 rfl dX10_draw_10 (by decide) (fun h10 => ?_) (fun h10 => ?_)
  · have hf := xif_f hf h10
    refine xV_iload_n 16 rfl dX10_draw_15 rfl 2 rfl ?_
    refine xV_if_eq (tgt := 27) 19 rfl dX10_draw_16 (by decide) (fun h16 => ?_) (fun h16 => ?_)
    · have hf := xif_t hf h16
      refine xV_aload_n 28 rfl dX10_draw_27 rfl 0 rfl ?_
      refine xV_iload_n 29 rfl dX10_draw_28 rfl 1 rfl ?_
      obtain ⟨v29, hv29, hf⟩ := xb_s hf
      refine xV_same (rest := []) 32 rfl dX10_draw_29 rfl (C10_byChance X.1.2.1 hv29) m10_byChance v10_byChance k10_374 rfl rfl rfl rfl rfl (Nat.le_of_ble_eq_true rfl) (Nat.le_of_ble_eq_true rfl) (Nat.le_of_ble_eq_true rfl) ⟨Nat.le_refl _, Nat.le_refl _⟩ ?_
      show xV (j10_draw) X 0 0 (hM (0 : Int32) c_told c_read c_many c_eights c_gains c_notes c_seen c_turns c_drawn v29.2 c_tape c_taped c_size c_from c_next c_token c_value c_fault c_number c_fives c_isLeft c_wentTimes c_goes c_isLeftLaid c_game c_rows c_columns c_isFound c_bestValue c_bestBelow c_bestShare c_share c_matrix c_system c_shares c_allShares) 32 [(0, .ref 0), (1, .int x1), (2, .int x2)] [.int v29.1]
      obtain rfl := Option.some.inj hf
      exact xV_iret hX dX10_draw_32 rfl (Nat.zero_le _) (Nat.zero_le _)
    · have hf := xif_f hf h16
      refine xV_aload_n 20 rfl dX10_draw_19 rfl 0 rfl ?_
      refine xV_iload_n 21 rfl dX10_draw_20 rfl 1 rfl ?_
      obtain ⟨v21, hv21, hf⟩ := xb_s hf
      refine xV_same (rest := []) 24 rfl dX10_draw_21 rfl (C10_byTurns X.1.2.1 hv21) m10_byTurns v10_byTurns k10_371 rfl rfl rfl rfl rfl (Nat.le_of_ble_eq_true rfl) (Nat.le_of_ble_eq_true rfl) (Nat.le_of_ble_eq_true rfl) ⟨Nat.le_refl _, Nat.le_refl _⟩ ?_
      show xV (j10_draw) X 0 0 (hM (0 : Int32) c_told c_read c_many c_eights c_gains c_notes c_seen v21.2.1 v21.2.2 c_state c_tape c_taped c_size c_from c_next c_token c_value c_fault c_number c_fives c_isLeft c_wentTimes c_goes c_isLeftLaid c_game c_rows c_columns c_isFound c_bestValue c_bestBelow c_bestShare c_share c_matrix c_system c_shares c_allShares) 24 [(0, .ref 0), (1, .int x1), (2, .int x2)] [.int v21.1]
      refine xV_goto (tgt := 32) dX10_draw_24 (by decide) ?_
      obtain rfl := Option.some.inj hf
      exact xV_iret hX dX10_draw_32 rfl (Nat.zero_le _) (Nat.zero_le _)
  · have hf := xif_t hf h10
    refine xV_iconst 14 rfl dX10_draw_13 xk_im1 ?_
    obtain rfl := Option.some.inj hf
    exact xV_iret hX dX10_draw_14 rfl (Nat.zero_le _) (Nat.zero_le _)
theorem C10_draw (l : Launch) {z : Nat} {x1 : Int32} {x2 : Int32} {c_thrown : Int32} {c_told : (Nat → Int32)} {c_many : (Nat → Int32)} {c_eights : (Nat → Int32)} {c_turns : (Nat → Int32)} {c_drawn : (Nat → Int32)} {c_state : Int32} {c_read : (Nat → Int32)} {c_gains : (Nat → Int32)} {c_notes : (Nat → Int32)} {c_seen : (Nat → Int32)} {c_tape : (Nat → Int32)} {c_taped : Int32} {c_size : Int32} {c_from : Int32} {c_next : Int32} {c_token : Int32} {c_value : Int32} {c_fault : Int32} {c_number : Int32} {c_fives : (Nat → Int32)} {c_isLeft : (Nat → Int32)} {c_wentTimes : Int32} {c_goes : (Nat → Int32)} {c_isLeftLaid : Int32} {c_game : (Nat → Int32)} {c_rows : Int32} {c_columns : Int32} {c_isFound : Int32} {c_bestValue : Int64} {c_bestBelow : Int64} {c_bestShare : (Nat → Int64)} {c_share : (Nat → Int64)} {c_matrix : (Nat → Int64)} {c_system : (Nat → Int64)} {c_shares : (Nat → Int32)} {c_allShares : Int32} {v : Int32 × Int32 × (Nat → Int32) × (Nat → Int32) × Int32} (hf : F10_draw z x1 x2 c_thrown c_told c_many c_eights c_turns c_drawn c_state = some v) : xCt l yX10_draw ((some .int)) j10_draw [.ref 0, .int x1, .int x2] (hM c_thrown c_told c_read c_many c_eights c_gains c_notes c_seen c_turns c_drawn c_state c_tape c_taped c_size c_from c_next c_token c_value c_fault c_number c_fives c_isLeft c_wentTimes c_goes c_isLeftLaid c_game c_rows c_columns c_isFound c_bestValue c_bestBelow c_bestShare c_share c_matrix c_system c_shares c_allShares) (some (.int v.1)) (hM v.2.1 c_told c_read c_many c_eights c_gains c_notes c_seen v.2.2.1 v.2.2.2.1 v.2.2.2.2 c_tape c_taped c_size c_from c_next c_token c_value c_fault c_number c_fives c_isLeft c_wentTimes c_goes c_isLeftLaid c_game c_rows c_columns c_isFound c_bestValue c_bestBelow c_bestShare c_share c_matrix c_system c_shares c_allShares) := xCt_of (by decide) rfl (Nat.le_of_ble_eq_true rfl) (fun _ hX => T10_draw hX hf)
theorem m10_draw : xMd yX10_draw RX10 ((some .int)) j10_draw 2 := ⟨List.mem_of_getElem? (i := 1226) (by decide +kernel), List.mem_of_getElem? (i := 5) (by decide +kernel), rfl, by decide +kernel⟩
theorem v10_draw : xMv yX10_draw RX10 := ⟨List.mem_of_getElem? (i := 1224) (by decide +kernel), List.mem_of_getElem? (i := 1225) (by decide +kernel)⟩
theorem xk_s200 : (Int16.ofInt (200)).toInt32 = (200 : Int32) := by decide
theorem xk_sm10000 : (Int16.ofInt (-10000)).toInt32 = (-10000 : Int32) := by decide
theorem dX10_match_0 : decode cX10_match 0 = .ok (.aload_n 0, 1) := by decide +kernel
theorem dX10_match_1 : decode cX10_match 1 = .ok (.iconst 0, 1) := by decide +kernel
theorem dX10_match_2 : decode cX10_match 2 = .ok (.putfield 1, 3) := by decide +kernel
theorem dX10_match_5 : decode cX10_match 5 = .ok (.iload_n 1, 1) := by decide +kernel
theorem dX10_match_6 : decode cX10_match 6 = .ok (.iconst 1, 1) := by decide +kernel
theorem dX10_match_7 : decode cX10_match 7 = .ok (.sipush 200, 3) := by decide +kernel
theorem dX10_match_10 : decode cX10_match 10 = .ok (.invokestatic 7, 3) := by decide +kernel
theorem dX10_match_13 : decode cX10_match 13 = .ok (.ifCond .eq 19, 3) := by decide +kernel
theorem dX10_match_16 : decode cX10_match 16 = .ok (.aload_n 0, 1) := by decide +kernel
theorem dX10_match_17 : decode cX10_match 17 = .ok (.iconst 0, 1) := by decide +kernel
theorem dX10_match_18 : decode cX10_match 18 = .ok (.invokevirtual 349, 3) := by decide +kernel
theorem dX10_match_21 : decode cX10_match 21 = .ok (.ifCond .eq 11, 3) := by decide +kernel
theorem dX10_match_24 : decode cX10_match 24 = .ok (.aload_n 0, 1) := by decide +kernel
theorem dX10_match_25 : decode cX10_match 25 = .ok (.iconst 1, 1) := by decide +kernel
theorem dX10_match_26 : decode cX10_match 26 = .ok (.invokevirtual 349, 3) := by decide +kernel
theorem dX10_match_29 : decode cX10_match 29 = .ok (.ifCond .ne 7, 3) := by decide +kernel
theorem dX10_match_32 : decode cX10_match 32 = .ok (.sipush (-10000), 3) := by decide +kernel
theorem dX10_match_35 : decode cX10_match 35 = .ok (.ireturn, 1) := by decide +kernel
theorem dX10_match_36 : decode cX10_match 36 = .ok (.iconst 0, 1) := by decide +kernel
theorem dX10_match_37 : decode cX10_match 37 = .ok (.istore_n 2, 1) := by decide +kernel
theorem dX10_match_38 : decode cX10_match 38 = .ok (.iconst 0, 1) := by decide +kernel
theorem dX10_match_39 : decode cX10_match 39 = .ok (.istore_n 3, 1) := by decide +kernel
theorem dX10_match_40 : decode cX10_match 40 = .ok (.iload_n 3, 1) := by decide +kernel
theorem dX10_match_41 : decode cX10_match 41 = .ok (.iload_n 1, 1) := by decide +kernel
theorem dX10_match_42 : decode cX10_match 42 = .ok (.if_icmp .ge 40, 3) := by decide +kernel
theorem dX10_match_45 : decode cX10_match 45 = .ok (.aload_n 0, 1) := by decide +kernel
theorem dX10_match_46 : decode cX10_match 46 = .ok (.iconst 0, 1) := by decide +kernel
theorem dX10_match_47 : decode cX10_match 47 = .ok (.invokevirtual 374, 3) := by decide +kernel
theorem dX10_match_50 : decode cX10_match 50 = .ok (.istore 4, 2) := by decide +kernel
theorem dX10_match_52 : decode cX10_match 52 = .ok (.aload_n 0, 1) := by decide +kernel
theorem dX10_match_53 : decode cX10_match 53 = .ok (.iconst 1, 1) := by decide +kernel
theorem dX10_match_54 : decode cX10_match 54 = .ok (.invokevirtual 374, 3) := by decide +kernel
theorem dX10_match_57 : decode cX10_match 57 = .ok (.istore 5, 2) := by decide +kernel
theorem dX10_match_59 : decode cX10_match 59 = .ok (.iload_n 2, 1) := by decide +kernel
theorem dX10_match_60 : decode cX10_match 60 = .ok (.aload_n 0, 1) := by decide +kernel
theorem dX10_match_61 : decode cX10_match 61 = .ok (.getfield 30, 3) := by decide +kernel
theorem dX10_match_64 : decode cX10_match 64 = .ok (.sipush 128, 3) := by decide +kernel
theorem dX10_match_67 : decode cX10_match 67 = .ok (.iload 4, 2) := by decide +kernel
theorem dX10_match_69 : decode cX10_match 69 = .ok (.imul, 1) := by decide +kernel
theorem dX10_match_70 : decode cX10_match 70 = .ok (.iload 5, 2) := by decide +kernel
theorem dX10_match_72 : decode cX10_match 72 = .ok (.iadd, 1) := by decide +kernel
theorem dX10_match_73 : decode cX10_match 73 = .ok (.iaload, 1) := by decide +kernel
theorem dX10_match_74 : decode cX10_match 74 = .ok (.iadd, 1) := by decide +kernel
theorem dX10_match_75 : decode cX10_match 75 = .ok (.istore_n 2, 1) := by decide +kernel
theorem dX10_match_76 : decode cX10_match 76 = .ok (.iinc 3 1, 3) := by decide +kernel
theorem dX10_match_79 : decode cX10_match 79 = .ok (.goto (-39), 3) := by decide +kernel
theorem dX10_match_82 : decode cX10_match 82 = .ok (.iload_n 2, 1) := by decide +kernel
theorem dX10_match_83 : decode cX10_match 83 = .ok (.ireturn, 1) := by decide +kernel
abbrev j10_match : xJ := (cX10_match, 6, RX10, 5, 0, 0)
def F10_match_b40 (z : Nat) (w : Nat) (x1 : Int32) (x2 : Int32) (x3 : Int32) (c_thrown : Int32) (c_told : (Nat → Int32)) (c_many : (Nat → Int32)) (c_eights : (Nat → Int32)) (c_gains : (Nat → Int32)) (c_state : Int32) : Option (Int32 × Int32 × Int32) := match w with
  | 0 => none
  | w + 1 => if x1 ≤ x3 then (some (x2, c_thrown, c_state)) else ((F10_byChance z (0 : Int32) c_told c_many c_eights c_state).bind (fun v47 => (F10_byChance z (1 : Int32) c_told c_many c_eights v47.2).bind (fun v54 => xg (xin (((128 : Int32) * v47.1) + v54.1) 16384) (F10_match_b40 z w x1 (x2 + (c_gains (xn (((128 : Int32) * v47.1) + v54.1)))) (x3 + (1 : Int32)) c_thrown c_told c_many c_eights c_gains v54.2))))
theorem T10_match_b40 {X : xX} {c_told : (Nat → Int32)} {c_read : (Nat → Int32)} {c_many : (Nat → Int32)} {c_eights : (Nat → Int32)} {c_gains : (Nat → Int32)} {c_notes : (Nat → Int32)} {c_seen : (Nat → Int32)} {c_turns : (Nat → Int32)} {c_drawn : (Nat → Int32)} {c_tape : (Nat → Int32)} {c_taped : Int32} {c_size : Int32} {c_from : Int32} {c_next : Int32} {c_token : Int32} {c_value : Int32} {c_fault : Int32} {c_number : Int32} {c_fives : (Nat → Int32)} {c_isLeft : (Nat → Int32)} {c_wentTimes : Int32} {c_goes : (Nat → Int32)} {c_isLeftLaid : Int32} {c_game : (Nat → Int32)} {c_rows : Int32} {c_columns : Int32} {c_isFound : Int32} {c_bestValue : Int64} {c_bestBelow : Int64} {c_bestShare : (Nat → Int64)} {c_share : (Nat → Int64)} {c_matrix : (Nat → Int64)} {c_system : (Nat → Int64)} {c_shares : (Nat → Int32)} {c_allShares : Int32} {z : Nat} {v : Int32 × Int32 × Int32} (hX : xIs (j10_match) X ((some .int)) (some (.int v.1)) (hM v.2.1 c_told c_read c_many c_eights c_gains c_notes c_seen c_turns c_drawn v.2.2 c_tape c_taped c_size c_from c_next c_token c_value c_fault c_number c_fives c_isLeft c_wentTimes c_goes c_isLeftLaid c_game c_rows c_columns c_isFound c_bestValue c_bestBelow c_bestShare c_share c_matrix c_system c_shares c_allShares)) : ∀ (w : Nat) {x1 : Int32} {x2 : Int32} {x3 : Int32} {c_thrown : Int32} {c_state : Int32}, F10_match_b40 z w x1 x2 x3 c_thrown c_told c_many c_eights c_gains c_state = some v → xV (j10_match) X 0 0 (hM c_thrown c_told c_read c_many c_eights c_gains c_notes c_seen c_turns c_drawn c_state c_tape c_taped c_size c_from c_next c_token c_value c_fault c_number c_fives c_isLeft c_wentTimes c_goes c_isLeftLaid c_game c_rows c_columns c_isFound c_bestValue c_bestBelow c_bestShare c_share c_matrix c_system c_shares c_allShares) 40 [(0, .ref 0), (1, .int x1), (2, .int x2), (3, .int x3)] [] := by
  intro w
  induction w with
  | zero => intro x1 x2 x3 c_thrown c_state hf; cases hf
  | succ w ih =>
    intro x1 x2 x3 c_thrown c_state hf
    unfold F10_match_b40 at hf
    refine xV_iload_n 41 rfl dX10_match_40 rfl 3 rfl ?_
    refine xV_iload_n 42 rfl dX10_match_41 rfl 1 rfl ?_
    refine xV_icmp_ge (tgt := 82) 45 rfl dX10_match_42 (by decide) (fun h42 => ?_) (fun h42 => ?_)
    · have hf := xif_t hf h42
      refine xV_iload_n 83 rfl dX10_match_82 rfl 2 rfl ?_
      obtain rfl := Option.some.inj hf
      exact xV_iret hX dX10_match_83 rfl (Nat.zero_le _) (Nat.zero_le _)
    · have hf := xif_f hf h42
      refine xV_aload_n 46 rfl dX10_match_45 rfl 0 rfl ?_
      refine xV_iconst 47 rfl dX10_match_46 xk_i0 ?_
      obtain ⟨v47, hv47, hf⟩ := xb_s hf
      refine xV_same (rest := []) 50 rfl dX10_match_47 rfl (C10_byChance X.1.2.1 hv47) m10_byChance v10_byChance k10_374 rfl rfl rfl rfl rfl (Nat.le_of_ble_eq_true rfl) (Nat.le_of_ble_eq_true rfl) (Nat.le_of_ble_eq_true rfl) ⟨Nat.le_refl _, Nat.le_refl _⟩ ?_
      show xV (j10_match) X 0 0 (hM c_thrown c_told c_read c_many c_eights c_gains c_notes c_seen c_turns c_drawn v47.2 c_tape c_taped c_size c_from c_next c_token c_value c_fault c_number c_fives c_isLeft c_wentTimes c_goes c_isLeftLaid c_game c_rows c_columns c_isFound c_bestValue c_bestBelow c_bestShare c_share c_matrix c_system c_shares c_allShares) 50 [(0, .ref 0), (1, .int x1), (2, .int x2), (3, .int x3)] [.int v47.1]
      refine xV_istore (L' := [(4, .int v47.1), (0, .ref 0), (1, .int x1), (2, .int x2), (3, .int x3)]) 52 rfl dX10_match_50 (xlt rfl) rfl ?_
      refine xV_aload_n 53 rfl dX10_match_52 rfl 1 rfl ?_
      refine xV_iconst 54 rfl dX10_match_53 xk_i1 ?_
      obtain ⟨v54, hv54, hf⟩ := xb_s hf
      refine xV_same (rest := []) 57 rfl dX10_match_54 rfl (C10_byChance X.1.2.1 hv54) m10_byChance v10_byChance k10_374 rfl rfl rfl rfl rfl (Nat.le_of_ble_eq_true rfl) (Nat.le_of_ble_eq_true rfl) (Nat.le_of_ble_eq_true rfl) ⟨Nat.le_refl _, Nat.le_refl _⟩ ?_
      show xV (j10_match) X 0 0 (hM c_thrown c_told c_read c_many c_eights c_gains c_notes c_seen c_turns c_drawn v54.2 c_tape c_taped c_size c_from c_next c_token c_value c_fault c_number c_fives c_isLeft c_wentTimes c_goes c_isLeftLaid c_game c_rows c_columns c_isFound c_bestValue c_bestBelow c_bestShare c_share c_matrix c_system c_shares c_allShares) 57 [(4, .int v47.1), (0, .ref 0), (1, .int x1), (2, .int x2), (3, .int x3)] [.int v54.1]
      refine xV_istore (L' := [(5, .int v54.1), (4, .int v47.1), (0, .ref 0), (1, .int x1), (2, .int x2), (3, .int x3)]) 59 rfl dX10_match_57 (xlt rfl) rfl ?_
      refine xV_iload_n 60 rfl dX10_match_59 rfl 4 rfl ?_
      refine xV_aload_n 61 rfl dX10_match_60 rfl 2 rfl ?_
      refine xV_get (v := .ref 5) 64 rfl dX10_match_61 f10_30 rfl rfl ?_
      refine xV_sipush 67 rfl dX10_match_64 xk_s128 ?_
      refine xV_iload 69 rfl dX10_match_67 1 rfl ?_
      refine xV_imul 70 rfl dX10_match_69 ?_
      refine xV_iload 72 rfl dX10_match_70 0 rfl ?_
      refine xV_iadd 73 rfl dX10_match_72 ?_
      obtain ⟨hg73, hf⟩ := xg_s hf
      refine xV_iaload 74 rfl dX10_match_73 rfl (xin_ok hg73) rfl ?_
      refine xV_iadd 75 rfl dX10_match_74 ?_
      refine xV_istore_n (L' := [(2, .int (x2 + (c_gains (xn (((128 : Int32) * v47.1) + v54.1))))), (5, .int v54.1), (4, .int v47.1), (0, .ref 0), (1, .int x1), (3, .int x3)]) 76 rfl dX10_match_75 rfl (xlt rfl) rfl ?_
      refine xV_iinc (L' := [(3, .int (x3 + (1 : Int32))), (2, .int (x2 + (c_gains (xn (((128 : Int32) * v47.1) + v54.1))))), (5, .int v54.1), (4, .int v47.1), (0, .ref 0), (1, .int x1)]) 79 rfl dX10_match_76 5 rfl (xk_inc xk_i1) (xlt rfl) rfl ?_
      refine xV_goto (tgt := 40) dX10_match_79 (by decide) ?_
      refine xV_sub [4, 5, 1, 0] rfl ?_
      exact ih hf
def F10_match (z : Nat) (x1 : Int32) (c_thrown : Int32) (c_told : (Nat → Int32)) (c_many : (Nat → Int32)) (c_eights : (Nat → Int32)) (c_gains : (Nat → Int32)) (c_state : Int32) : Option (Int32 × Int32 × Int32) :=
  (F10_within x1 (1 : Int32) (200 : Int32)).bind (fun v10 => if v10 = 0 then (some ((-10000 : Int32), (0 : Int32), c_state)) else ((F10_hasPlan (0 : Int32) c_told).bind (fun v18 => if v18 = 0 then (some ((-10000 : Int32), (0 : Int32), c_state)) else ((F10_hasPlan (1 : Int32) c_told).bind (fun v26 => if v26 = 0 then (some ((-10000 : Int32), (0 : Int32), c_state)) else (F10_match_b40 z z x1 (0 : Int32) (0 : Int32) (0 : Int32) c_told c_many c_eights c_gains c_state))))))
theorem T10_match {X : xX} {z : Nat} {x1 : Int32} {c_thrown : Int32} {c_told : (Nat → Int32)} {c_many : (Nat → Int32)} {c_eights : (Nat → Int32)} {c_gains : (Nat → Int32)} {c_state : Int32} {c_read : (Nat → Int32)} {c_notes : (Nat → Int32)} {c_seen : (Nat → Int32)} {c_turns : (Nat → Int32)} {c_drawn : (Nat → Int32)} {c_tape : (Nat → Int32)} {c_taped : Int32} {c_size : Int32} {c_from : Int32} {c_next : Int32} {c_token : Int32} {c_value : Int32} {c_fault : Int32} {c_number : Int32} {c_fives : (Nat → Int32)} {c_isLeft : (Nat → Int32)} {c_wentTimes : Int32} {c_goes : (Nat → Int32)} {c_isLeftLaid : Int32} {c_game : (Nat → Int32)} {c_rows : Int32} {c_columns : Int32} {c_isFound : Int32} {c_bestValue : Int64} {c_bestBelow : Int64} {c_bestShare : (Nat → Int64)} {c_share : (Nat → Int64)} {c_matrix : (Nat → Int64)} {c_system : (Nat → Int64)} {c_shares : (Nat → Int32)} {c_allShares : Int32} {v : Int32 × Int32 × Int32} (hX : xIs (j10_match) X ((some .int)) (some (.int v.1)) (hM v.2.1 c_told c_read c_many c_eights c_gains c_notes c_seen c_turns c_drawn v.2.2 c_tape c_taped c_size c_from c_next c_token c_value c_fault c_number c_fives c_isLeft c_wentTimes c_goes c_isLeftLaid c_game c_rows c_columns c_isFound c_bestValue c_bestBelow c_bestShare c_share c_matrix c_system c_shares c_allShares)) (hf : F10_match z x1 c_thrown c_told c_many c_eights c_gains c_state = some v) : xV (j10_match) X 0 0 (hM c_thrown c_told c_read c_many c_eights c_gains c_notes c_seen c_turns c_drawn c_state c_tape c_taped c_size c_from c_next c_token c_value c_fault c_number c_fives c_isLeft c_wentTimes c_goes c_isLeftLaid c_game c_rows c_columns c_isFound c_bestValue c_bestBelow c_bestShare c_share c_matrix c_system c_shares c_allShares) 0 [(0, .ref 0), (1, .int x1)] [] := by
  unfold F10_match at hf
  refine xV_aload_n 1 rfl dX10_match_0 rfl 0 rfl ?_
  refine xV_iconst 2 rfl dX10_match_1 xk_i0 ?_
  refine xV_put (h' := (hM (0 : Int32) c_told c_read c_many c_eights c_gains c_notes c_seen c_turns c_drawn c_state c_tape c_taped c_size c_from c_next c_token c_value c_fault c_number c_fives c_isLeft c_wentTimes c_goes c_isLeftLaid c_game c_rows c_columns c_isFound c_bestValue c_bestBelow c_bestShare c_share c_matrix c_system c_shares c_allShares)) 5 rfl dX10_match_2 f10_1 rfl nf10_0 (fun _ => rfl) (fun _ => rfl) (Nat.le_of_ble_eq_true rfl) rfl ?_
  refine xV_iload_n 6 rfl dX10_match_5 rfl 1 rfl ?_
  refine xV_iconst 7 rfl dX10_match_6 xk_i1 ?_
  refine xV_sipush 10 rfl dX10_match_7 xk_s200 ?_
  obtain ⟨v10, hv10, hf⟩ := xb_s hf
  refine xV_st0 (rest := []) 13 rfl dX10_match_10 rfl (C10_within X.1.2.1 hv10) m10_within s10_within k10_7 rfl (Nat.le_of_ble_eq_true rfl) (Nat.le_of_ble_eq_true rfl) (Nat.le_of_ble_eq_true rfl) ⟨Nat.le_refl _, Nat.le_refl _⟩ ?_
  show xV (j10_match) X 0 0 (hM (0 : Int32) c_told c_read c_many c_eights c_gains c_notes c_seen c_turns c_drawn c_state c_tape c_taped c_size c_from c_next c_token c_value c_fault c_number c_fives c_isLeft c_wentTimes c_goes c_isLeftLaid c_game c_rows c_columns c_isFound c_bestValue c_bestBelow c_bestShare c_share c_matrix c_system c_shares c_allShares) 13 [(0, .ref 0), (1, .int x1)] [.int v10]
  refine xV_if_eq (tgt := 32) 16 rfl dX10_match_13 (by decide) (fun h13 => ?_) (fun h13 => ?_)
  · have hf := xif_t hf h13
    refine xV_sipush 35 rfl dX10_match_32 xk_sm10000 ?_
    obtain rfl := Option.some.inj hf
    exact xV_iret hX dX10_match_35 rfl (Nat.zero_le _) (Nat.zero_le _)
  · have hf := xif_f hf h13
    refine xV_aload_n 17 rfl dX10_match_16 rfl 0 rfl ?_
    refine xV_iconst 18 rfl dX10_match_17 xk_i0 ?_
    obtain ⟨v18, hv18, hf⟩ := xb_s hf
    refine xV_same (rest := []) 21 rfl dX10_match_18 rfl (C10_hasPlan X.1.2.1 hv18) m10_hasPlan v10_hasPlan k10_349 rfl rfl rfl rfl rfl (Nat.le_of_ble_eq_true rfl) (Nat.le_of_ble_eq_true rfl) (Nat.le_of_ble_eq_true rfl) ⟨Nat.le_refl _, Nat.le_refl _⟩ ?_
    show xV (j10_match) X 0 0 (hM (0 : Int32) c_told c_read c_many c_eights c_gains c_notes c_seen c_turns c_drawn c_state c_tape c_taped c_size c_from c_next c_token c_value c_fault c_number c_fives c_isLeft c_wentTimes c_goes c_isLeftLaid c_game c_rows c_columns c_isFound c_bestValue c_bestBelow c_bestShare c_share c_matrix c_system c_shares c_allShares) 21 [(0, .ref 0), (1, .int x1)] [.int v18]
    refine xV_if_eq (tgt := 32) 24 rfl dX10_match_21 (by decide) (fun h21 => ?_) (fun h21 => ?_)
    · have hf := xif_t hf h21
      refine xV_sipush 35 rfl dX10_match_32 xk_sm10000 ?_
      obtain rfl := Option.some.inj hf
      exact xV_iret hX dX10_match_35 rfl (Nat.zero_le _) (Nat.zero_le _)
    · have hf := xif_f hf h21
      refine xV_aload_n 25 rfl dX10_match_24 rfl 0 rfl ?_
      refine xV_iconst 26 rfl dX10_match_25 xk_i1 ?_
      obtain ⟨v26, hv26, hf⟩ := xb_s hf
      refine xV_same (rest := []) 29 rfl dX10_match_26 rfl (C10_hasPlan X.1.2.1 hv26) m10_hasPlan v10_hasPlan k10_349 rfl rfl rfl rfl rfl (Nat.le_of_ble_eq_true rfl) (Nat.le_of_ble_eq_true rfl) (Nat.le_of_ble_eq_true rfl) ⟨Nat.le_refl _, Nat.le_refl _⟩ ?_
      show xV (j10_match) X 0 0 (hM (0 : Int32) c_told c_read c_many c_eights c_gains c_notes c_seen c_turns c_drawn c_state c_tape c_taped c_size c_from c_next c_token c_value c_fault c_number c_fives c_isLeft c_wentTimes c_goes c_isLeftLaid c_game c_rows c_columns c_isFound c_bestValue c_bestBelow c_bestShare c_share c_matrix c_system c_shares c_allShares) 29 [(0, .ref 0), (1, .int x1)] [.int v26]
      refine xV_if_ne (tgt := 36) 32 rfl dX10_match_29 (by decide) (fun h29 => ?_) (fun h29 => ?_)
      · have hf := xif_f hf h29
        refine xV_iconst 37 rfl dX10_match_36 xk_i0 ?_
        refine xV_istore_n (L' := [(2, .int (0 : Int32)), (0, .ref 0), (1, .int x1)]) 38 rfl dX10_match_37 rfl (xlt rfl) rfl ?_
        refine xV_iconst 39 rfl dX10_match_38 xk_i0 ?_
        refine xV_istore_n (L' := [(3, .int (0 : Int32)), (2, .int (0 : Int32)), (0, .ref 0), (1, .int x1)]) 40 rfl dX10_match_39 rfl (xlt rfl) rfl ?_
        refine xV_sub [2, 3, 1, 0] rfl ?_
        exact T10_match_b40 hX _ hf
      · have hf := xif_t hf h29
        refine xV_sipush 35 rfl dX10_match_32 xk_sm10000 ?_
        obtain rfl := Option.some.inj hf
        exact xV_iret hX dX10_match_35 rfl (Nat.zero_le _) (Nat.zero_le _)
theorem C10_match (l : Launch) {z : Nat} {x1 : Int32} {c_thrown : Int32} {c_told : (Nat → Int32)} {c_many : (Nat → Int32)} {c_eights : (Nat → Int32)} {c_gains : (Nat → Int32)} {c_state : Int32} {c_read : (Nat → Int32)} {c_notes : (Nat → Int32)} {c_seen : (Nat → Int32)} {c_turns : (Nat → Int32)} {c_drawn : (Nat → Int32)} {c_tape : (Nat → Int32)} {c_taped : Int32} {c_size : Int32} {c_from : Int32} {c_next : Int32} {c_token : Int32} {c_value : Int32} {c_fault : Int32} {c_number : Int32} {c_fives : (Nat → Int32)} {c_isLeft : (Nat → Int32)} {c_wentTimes : Int32} {c_goes : (Nat → Int32)} {c_isLeftLaid : Int32} {c_game : (Nat → Int32)} {c_rows : Int32} {c_columns : Int32} {c_isFound : Int32} {c_bestValue : Int64} {c_bestBelow : Int64} {c_bestShare : (Nat → Int64)} {c_share : (Nat → Int64)} {c_matrix : (Nat → Int64)} {c_system : (Nat → Int64)} {c_shares : (Nat → Int32)} {c_allShares : Int32} {v : Int32 × Int32 × Int32} (hf : F10_match z x1 c_thrown c_told c_many c_eights c_gains c_state = some v) : xCt l yX10_match ((some .int)) j10_match [.ref 0, .int x1] (hM c_thrown c_told c_read c_many c_eights c_gains c_notes c_seen c_turns c_drawn c_state c_tape c_taped c_size c_from c_next c_token c_value c_fault c_number c_fives c_isLeft c_wentTimes c_goes c_isLeftLaid c_game c_rows c_columns c_isFound c_bestValue c_bestBelow c_bestShare c_share c_matrix c_system c_shares c_allShares) (some (.int v.1)) (hM v.2.1 c_told c_read c_many c_eights c_gains c_notes c_seen c_turns c_drawn v.2.2 c_tape c_taped c_size c_from c_next c_token c_value c_fault c_number c_fives c_isLeft c_wentTimes c_goes c_isLeftLaid c_game c_rows c_columns c_isFound c_bestValue c_bestBelow c_bestShare c_share c_matrix c_system c_shares c_allShares) := xCt_of (by decide) rfl (Nat.le_of_ble_eq_true rfl) (fun _ hX => T10_match hX hf)
theorem m10_match : xMd yX10_match RX10 ((some .int)) j10_match 1 := ⟨List.mem_of_getElem? (i := 1248) (by decide +kernel), List.mem_of_getElem? (i := 5) (by decide +kernel), rfl, by decide +kernel⟩
theorem v10_match : xMv yX10_match RX10 := ⟨List.mem_of_getElem? (i := 1246) (by decide +kernel), List.mem_of_getElem? (i := 1247) (by decide +kernel)⟩
