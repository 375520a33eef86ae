theorem xk_b64 : (Int8.ofInt (64)).toInt32 = (64 : Int32) := by decide
theorem xk_in0_64 : vp_in (0 : Int32) 64 := xin_ok (by decide)
theorem f10_73 : xFl RX10 73 10 34 := ⟨_, rfl, by decide, List.mem_of_getElem? (i := 142) (by decide +kernel)⟩
theorem k10_273 : Cond.methodLink RX10 273 yX10_determinant ∈ wsL_law0 := List.mem_of_getElem? (i := 958) (by decide +kernel)
theorem dX10_with_0 : decode cX10_with 0 = .ok (.iconst 0, 1) := by decide +kernel
theorem dX10_with_1 : decode cX10_with 1 = .ok (.istore_n 3, 1) := by decide +kernel
theorem dX10_with_2 : decode cX10_with 2 = .ok (.iload_n 3, 1) := by decide +kernel
theorem dX10_with_3 : decode cX10_with 3 = .ok (.bipush 64, 2) := by decide +kernel
theorem dX10_with_5 : decode cX10_with 5 = .ok (.if_icmp .ge 21, 3) := by decide +kernel
theorem dX10_with_8 : decode cX10_with 8 = .ok (.aload_n 0, 1) := by decide +kernel
theorem dX10_with_9 : decode cX10_with 9 = .ok (.getfield 70, 3) := by decide +kernel
theorem dX10_with_12 : decode cX10_with 12 = .ok (.iload_n 3, 1) := by decide +kernel
theorem dX10_with_13 : decode cX10_with 13 = .ok (.aload_n 0, 1) := by decide +kernel
theorem dX10_with_14 : decode cX10_with 14 = .ok (.getfield 73, 3) := by decide +kernel
theorem dX10_with_17 : decode cX10_with 17 = .ok (.iload_n 3, 1) := by decide +kernel
theorem dX10_with_18 : decode cX10_with 18 = .ok (.laload, 1) := by decide +kernel
theorem dX10_with_19 : decode cX10_with 19 = .ok (.lastore, 1) := by decide +kernel
theorem dX10_with_20 : decode cX10_with 20 = .ok (.iinc 3 1, 3) := by decide +kernel
theorem dX10_with_23 : decode cX10_with 23 = .ok (.goto (-21), 3) := by decide +kernel
theorem dX10_with_26 : decode cX10_with 26 = .ok (.iload_n 2, 1) := by decide +kernel
theorem dX10_with_27 : decode cX10_with 27 = .ok (.ifCond .lt 39, 3) := by decide +kernel
theorem dX10_with_30 : decode cX10_with 30 = .ok (.iconst 0, 1) := by decide +kernel
theorem dX10_with_31 : decode cX10_with 31 = .ok (.istore_n 3, 1) := by decide +kernel
theorem dX10_with_32 : decode cX10_with 32 = .ok (.iload_n 3, 1) := by decide +kernel
theorem dX10_with_33 : decode cX10_with 33 = .ok (.iload_n 1, 1) := by decide +kernel
theorem dX10_with_34 : decode cX10_with 34 = .ok (.if_icmp .ge 32, 3) := by decide +kernel
theorem dX10_with_37 : decode cX10_with 37 = .ok (.aload_n 0, 1) := by decide +kernel
theorem dX10_with_38 : decode cX10_with 38 = .ok (.getfield 70, 3) := by decide +kernel
theorem dX10_with_41 : decode cX10_with 41 = .ok (.bipush 8, 2) := by decide +kernel
theorem dX10_with_43 : decode cX10_with 43 = .ok (.iload_n 3, 1) := by decide +kernel
theorem dX10_with_44 : decode cX10_with 44 = .ok (.imul, 1) := by decide +kernel
theorem dX10_with_45 : decode cX10_with 45 = .ok (.iload_n 2, 1) := by decide +kernel
theorem dX10_with_46 : decode cX10_with 46 = .ok (.iadd, 1) := by decide +kernel
theorem dX10_with_47 : decode cX10_with 47 = .ok (.iload_n 3, 1) := by decide +kernel
theorem dX10_with_48 : decode cX10_with 48 = .ok (.iload_n 1, 1) := by decide +kernel
theorem dX10_with_49 : decode cX10_with 49 = .ok (.iconst 1, 1) := by decide +kernel
theorem dX10_with_50 : decode cX10_with 50 = .ok (.isub, 1) := by decide +kernel
theorem dX10_with_51 : decode cX10_with 51 = .ok (.if_icmp .ne 7, 3) := by decide +kernel
theorem dX10_with_54 : decode cX10_with 54 = .ok (.lconst 1, 1) := by decide +kernel
theorem dX10_with_55 : decode cX10_with 55 = .ok (.goto 4, 3) := by decide +kernel
theorem dX10_with_58 : decode cX10_with 58 = .ok (.lconst 0, 1) := by decide +kernel
theorem dX10_with_59 : decode cX10_with 59 = .ok (.lastore, 1) := by decide +kernel
theorem dX10_with_60 : decode cX10_with 60 = .ok (.iinc 3 1, 3) := by decide +kernel
theorem dX10_with_63 : decode cX10_with 63 = .ok (.goto (-31), 3) := by decide +kernel
theorem dX10_with_66 : decode cX10_with 66 = .ok (.aload_n 0, 1) := by decide +kernel
theorem dX10_with_67 : decode cX10_with 67 = .ok (.iload_n 1, 1) := by decide +kernel
theorem dX10_with_68 : decode cX10_with 68 = .ok (.invokevirtual 273, 3) := by decide +kernel
theorem dX10_with_71 : decode cX10_with 71 = .ok (.lreturn, 1) := by decide +kernel
abbrev j10_with : xJ := (cX10_with, 4, RX10, 3, 0, 0)
def F10_with_b66 (z : Nat) (x1 : Int32) (c_matrix : (Nat → Int64)) (c_system : (Nat → Int64)) : Option (Int64 × (Nat → Int64)) :=
  (F10_determinant z x1 c_matrix).bind (fun v68 => some (v68.1, v68.2))
theorem T10_with_b66 {X : xX} {c_thrown : Int32} {c_told : (Nat → Int32)} {c_read : (Nat → Int32)} {c_many : (Nat → Int32)} {c_eights : (Nat → Int32)} {c_gains : (Nat → Int32)} {c_notes : (Nat → Int32)} {c_seen : (Nat → Int32)} {c_turns : (Nat → Int32)} {c_drawn : (Nat → Int32)} {c_state : Int32} {c_tape : (Nat → Int32)} {c_taped : Int32} {c_size : Int32} {c_from : Int32} {c_next : Int32} {c_token : Int32} {c_value : Int32} {c_fault : Int32} {c_number : Int32} {c_fives : (Nat → Int32)} {c_isLeft : (Nat → Int32)} {c_wentTimes : Int32} {c_goes : (Nat → Int32)} {c_isLeftLaid : Int32} {c_game : (Nat → Int32)} {c_rows : Int32} {c_columns : Int32} {c_isFound : Int32} {c_bestValue : Int64} {c_bestBelow : Int64} {c_bestShare : (Nat → Int64)} {c_share : (Nat → Int64)} {c_shares : (Nat → Int32)} {c_allShares : Int32} {x1 : Int32} {c_matrix : (Nat → Int64)} {c_system : (Nat → Int64)} {z : Nat} {v : Int64 × (Nat → Int64)} (hX : xIs (j10_with) X ((some .long)) (some (.long v.1)) (hM c_thrown c_told c_read c_many c_eights c_gains c_notes c_seen c_turns c_drawn c_state c_tape c_taped c_size c_from c_next c_token c_value c_fault c_number c_fives c_isLeft c_wentTimes c_goes c_isLeftLaid c_game c_rows c_columns c_isFound c_bestValue c_bestBelow c_bestShare c_share v.2 c_system c_shares c_allShares)) (hf : F10_with_b66 z x1 c_matrix c_system = some v) : xV (j10_with) X 0 0 (hM c_thrown c_told c_read c_many c_eights c_gains c_notes c_seen c_turns c_drawn c_state c_tape c_taped c_size c_from c_next c_token c_value c_fault c_number c_fives c_isLeft c_wentTimes c_goes c_isLeftLaid c_game c_rows c_columns c_isFound c_bestValue c_bestBelow c_bestShare c_share c_matrix c_system c_shares c_allShares) 66 [(0, .ref 0), (1, .int x1)] [] := by
  unfold F10_with_b66 at hf
  refine xV_aload_n 67 rfl dX10_with_66 rfl 0 rfl ?_
  refine xV_iload_n 68 rfl dX10_with_67 rfl 1 rfl ?_
  obtain ⟨v68, hv68, hf⟩ := xb_s hf
  refine xV_same (rest := []) 71 rfl dX10_with_68 rfl (C10_determinant X.1.2.1 hv68) m10_determinant v10_determinant k10_273 rfl rfl rfl rfl rfl (Nat.le_of_ble_eq_true rfl) (Nat.le_of_ble_eq_true rfl) (Nat.le_of_ble_eq_true rfl) ⟨Nat.le_refl _, Nat.le_refl _⟩ ?_
  show xV (j10_with) X 0 0 (hM c_thrown c_told c_read c_many c_eights c_gains c_notes c_seen c_turns c_drawn c_state c_tape c_taped c_size c_from c_next c_token c_value c_fault c_number c_fives c_isLeft c_wentTimes c_goes c_isLeftLaid c_game c_rows c_columns c_isFound c_bestValue c_bestBelow c_bestShare c_share v68.2 c_system c_shares c_allShares) 71 [(0, .ref 0), (1, .int x1)] [.long v68.1]
  obtain rfl := Option.some.inj hf
  exact xV_lret hX dX10_with_71 (Nat.zero_le _) (Nat.zero_le _)
def F10_with_b59 (z : Nat) (x1 : Int32) (x2 : Int32) (x3 : Int32) (s1 : Int32) (s2 : Int64) (c_matrix : (Nat → Int64)) (c_system : (Nat → Int64)) (k32 : Int32 → Int32 → Int32 → (Nat → Int64) → (Nat → Int64) → Option (Int64 × (Nat → Int64))) : Option (Int64 × (Nat → Int64)) :=
  xg (xin s1 64) (k32 x1 x2 (x3 + (1 : Int32)) (vp_updL c_matrix (xn s1) s2) c_system)
theorem T10_with_b59 {X : xX} {c_thrown : Int32} {c_told : (Nat → Int32)} {c_read : (Nat → Int32)} {c_many : (Nat → Int32)} {c_eights : (Nat → Int32)} {c_gains : (Nat → Int32)} {c_notes : (Nat → Int32)} {c_seen : (Nat → Int32)} {c_turns : (Nat → Int32)} {c_drawn : (Nat → Int32)} {c_state : Int32} {c_tape : (Nat → Int32)} {c_taped : Int32} {c_size : Int32} {c_from : Int32} {c_next : Int32} {c_token : Int32} {c_value : Int32} {c_fault : Int32} {c_number : Int32} {c_fives : (Nat → Int32)} {c_isLeft : (Nat → Int32)} {c_wentTimes : Int32} {c_goes : (Nat → Int32)} {c_isLeftLaid : Int32} {c_game : (Nat → Int32)} {c_rows : Int32} {c_columns : Int32} {c_isFound : Int32} {c_bestValue : Int64} {c_bestBelow : Int64} {c_bestShare : (Nat → Int64)} {c_share : (Nat → Int64)} {c_shares : (Nat → Int32)} {c_allShares : Int32} {x1 : Int32} {x2 : Int32} {x3 : Int32} {s1 : Int32} {s2 : Int64} {c_matrix : (Nat → Int64)} {c_system : (Nat → Int64)} {z : Nat} {v : Int64 × (Nat → Int64)} {k32 : Int32 → Int32 → Int32 → (Nat → Int64) → (Nat → Int64) → Option (Int64 × (Nat → Int64))} (hX : xIs (j10_with) X ((some .long)) (some (.long v.1)) (hM c_thrown c_told c_read c_many c_eights c_gains c_notes c_seen c_turns c_drawn c_state c_tape c_taped c_size c_from c_next c_token c_value c_fault c_number c_fives c_isLeft c_wentTimes c_goes c_isLeftLaid c_game c_rows c_columns c_isFound c_bestValue c_bestBelow c_bestShare c_share v.2 c_system c_shares c_allShares)) (hk32 : ∀ {x1 : Int32} {x2 : Int32} {x3 : Int32} {c_matrix : (Nat → Int64)}, k32 x1 x2 x3 c_matrix c_system = some v → xV (j10_with) X 0 0 (hM c_thrown c_told c_read c_many c_eights c_gains c_notes c_seen c_turns c_drawn c_state c_tape c_taped c_size c_from c_next c_token c_value c_fault c_number c_fives c_isLeft c_wentTimes c_goes c_isLeftLaid c_game c_rows c_columns c_isFound c_bestValue c_bestBelow c_bestShare c_share c_matrix c_system c_shares c_allShares) 32 [(0, .ref 0), (1, .int x1), (2, .int x2), (3, .int x3)] []) (hf : F10_with_b59 z x1 x2 x3 s1 s2 c_matrix c_system k32 = some v) : xV (j10_with) X 0 0 (hM c_thrown c_told c_read c_many c_eights c_gains c_notes c_seen c_turns c_drawn c_state c_tape c_taped c_size c_from c_next c_token c_value c_fault c_number c_fives c_isLeft c_wentTimes c_goes c_isLeftLaid c_game c_rows c_columns c_isFound c_bestValue c_bestBelow c_bestShare c_share c_matrix c_system c_shares c_allShares) 59 [(0, .ref 0), (1, .int x1), (2, .int x2), (3, .int x3)] [.long s2, .int s1, .ref 17] := by
  unfold F10_with_b59 at hf
  obtain ⟨hg59, hf⟩ := xg_s hf
  refine xV_lastore (h' := (hM c_thrown c_told c_read c_many c_eights c_gains c_notes c_seen c_turns c_drawn c_state c_tape c_taped c_size c_from c_next c_token c_value c_fault c_number c_fives c_isLeft c_wentTimes c_goes c_isLeftLaid c_game c_rows c_columns c_isFound c_bestValue c_bestBelow c_bestShare c_share (vp_updL c_matrix (xn s1) s2) c_system c_shares c_allShares)) 60 rfl dX10_with_59 rfl (xin_ok hg59) rfl rfl ?_
  refine xV_iinc (L' := [(3, .int (x3 + (1 : Int32))), (0, .ref 0), (1, .int x1), (2, .int x2)]) 63 rfl dX10_with_60 3 rfl (xk_inc xk_i1) (xlt rfl) rfl ?_
  refine xV_goto (tgt := 32) dX10_with_63 (by decide) ?_
  refine xV_sub [1, 2, 3, 0] rfl ?_
  exact hk32 hf
def F10_with_b32 (z : Nat) (w : Nat) (x1 : Int32) (x2 : Int32) (x3 : Int32) (c_matrix : (Nat → Int64)) (c_system : (Nat → Int64)) : Option (Int64 × (Nat → Int64)) := match w with
  | 0 => none
  | w + 1 => if x1 ≤ x3 then (F10_with_b66 z x1 c_matrix c_system) else (if x3 = (x1 - (1 : Int32)) then (F10_with_b59 z x1 x2 x3 (((8 : Int32) * x3) + x2) (1 : Int64) c_matrix c_system (fun q0 q1 q2 q3 q4 => F10_with_b32 z w q0 q1 q2 q3 q4)) else (F10_with_b59 z x1 x2 x3 (((8 : Int32) * x3) + x2) (0 : Int64) c_matrix c_system (fun q0 q1 q2 q3 q4 => F10_with_b32 z w q0 q1 q2 q3 q4)))
theorem T10_with_b32 {X : xX} {c_thrown : Int32} {c_told : (Nat → Int32)} {c_read : (Nat → Int32)} {c_many : (Nat → Int32)} {c_eights : (Nat → Int32)} {c_gains : (Nat → Int32)} {c_notes : (Nat → Int32)} {c_seen : (Nat → Int32)} {c_turns : (Nat → Int32)} {c_drawn : (Nat → Int32)} {c_state : Int32} {c_tape : (Nat → Int32)} {c_taped : Int32} {c_size : Int32} {c_from : Int32} {c_next : Int32} {c_token : Int32} {c_value : Int32} {c_fault : Int32} {c_number : Int32} {c_fives : (Nat → Int32)} {c_isLeft : (Nat → Int32)} {c_wentTimes : Int32} {c_goes : (Nat → Int32)} {c_isLeftLaid : Int32} {c_game : (Nat → Int32)} {c_rows : Int32} {c_columns : Int32} {c_isFound : Int32} {c_bestValue : Int64} {c_bestBelow : Int64} {c_bestShare : (Nat → Int64)} {c_share : (Nat → Int64)} {c_system : (Nat → Int64)} {c_shares : (Nat → Int32)} {c_allShares : Int32} {z : Nat} {v : Int64 × (Nat → Int64)} (hX : xIs (j10_with) X ((some .long)) (some (.long v.1)) (hM c_thrown c_told c_read c_many c_eights c_gains c_notes c_seen c_turns c_drawn c_state c_tape c_taped c_size c_from c_next c_token c_value c_fault c_number c_fives c_isLeft c_wentTimes c_goes c_isLeftLaid c_game c_rows c_columns c_isFound c_bestValue c_bestBelow c_bestShare c_share v.2 c_system c_shares c_allShares)) : ∀ (w : Nat) {x1 : Int32} {x2 : Int32} {x3 : Int32} {c_matrix : (Nat → Int64)}, F10_with_b32 z w x1 x2 x3 c_matrix c_system = some v → xV (j10_with) X 0 0 (hM c_thrown c_told c_read c_many c_eights c_gains c_notes c_seen c_turns c_drawn c_state c_tape c_taped c_size c_from c_next c_token c_value c_fault c_number c_fives c_isLeft c_wentTimes c_goes c_isLeftLaid c_game c_rows c_columns c_isFound c_bestValue c_bestBelow c_bestShare c_share c_matrix c_system c_shares c_allShares) 32 [(0, .ref 0), (1, .int x1), (2, .int x2), (3, .int x3)] [] := by
  intro w
  induction w with
  | zero => intro x1 x2 x3 c_matrix hf; cases hf
  | succ w ih =>
    intro x1 x2 x3 c_matrix hf
    unfold F10_with_b32 at hf
    refine xV_iload_n 33 rfl dX10_with_32 rfl 3 rfl ?_
    refine xV_iload_n 34 rfl dX10_with_33 rfl 1 rfl ?_
    refine xV_icmp_ge (tgt := 66) 37 rfl dX10_with_34 (by decide) (fun h34 => ?_) (fun h34 => ?_)
    · have hf := xif_t hf h34
      refine xV_sub [0, 1] rfl ?_
      exact T10_with_b66 hX hf
    · have hf := xif_f hf h34
      refine xV_aload_n 38 rfl dX10_with_37 rfl 0 rfl ?_
      refine xV_get (v := .ref 17) 41 rfl dX10_with_38 f10_70 rfl rfl ?_
      refine xV_bipush 43 rfl dX10_with_41 xk_b8 ?_
      refine xV_iload_n 44 rfl dX10_with_43 rfl 3 rfl ?_
      refine xV_imul 45 rfl dX10_with_44 ?_
      refine xV_iload_n 46 rfl dX10_with_45 rfl 2 rfl ?_
      refine xV_iadd 47 rfl dX10_with_46 ?_
      refine xV_iload_n 48 rfl dX10_with_47 rfl 3 rfl ?_
      refine xV_iload_n 49 rfl dX10_with_48 rfl 1 rfl ?_
      refine xV_iconst 50 rfl dX10_with_49 xk_i1 ?_
      refine xV_isub 51 rfl dX10_with_50 ?_
      refine xV_icmp_ne (tgt := 58) 54 rfl dX10_with_51 (by decide) (fun h51 => ?_) (fun h51 => ?_)
      · have hf := xif_f hf h51
        refine xV_lconst (v := 0) 59 rfl dX10_with_58 (by decide) ?_
        exact T10_with_b59 hX (fun {_ _ _ _} hq => ih hq) hf
      · have hf := xif_t hf h51
        refine xV_lconst (v := 1) 55 rfl dX10_with_54 (by decide) ?_
        refine xV_goto (tgt := 59) dX10_with_55 (by decide) ?_
        exact T10_with_b59 hX (fun {_ _ _ _} hq => ih hq) hf
def F10_with_b26 (z : Nat) (x1 : Int32) (x2 : Int32) (c_matrix : (Nat → Int64)) (c_system : (Nat → Int64)) : Option (Int64 × (Nat → Int64)) :=
  if x2 < 0 then (F10_with_b66 z x1 c_matrix c_system) else (F10_with_b32 z z x1 x2 (0 : Int32) c_matrix c_system)
theorem T10_with_b26 {X : xX} {c_thrown : Int32} {c_told : (Nat → Int32)} {c_read : (Nat → Int32)} {c_many : (Nat → Int32)} {c_eights : (Nat → Int32)} {c_gains : (Nat → Int32)} {c_notes : (Nat → Int32)} {c_seen : (Nat → Int32)} {c_turns : (Nat → Int32)} {c_drawn : (Nat → Int32)} {c_state : Int32} {c_tape : (Nat → Int32)} {c_taped : Int32} {c_size : Int32} {c_from : Int32} {c_next : Int32} {c_token : Int32} {c_value : Int32} {c_fault : Int32} {c_number : Int32} {c_fives : (Nat → Int32)} {c_isLeft : (Nat → Int32)} {c_wentTimes : Int32} {c_goes : (Nat → Int32)} {c_isLeftLaid : Int32} {c_game : (Nat → Int32)} {c_rows : Int32} {c_columns : Int32} {c_isFound : Int32} {c_bestValue : Int64} {c_bestBelow : Int64} {c_bestShare : (Nat → Int64)} {c_share : (Nat → Int64)} {c_shares : (Nat → Int32)} {c_allShares : Int32} {x1 : Int32} {x2 : Int32} {c_matrix : (Nat → Int64)} {c_system : (Nat → Int64)} {z : Nat} {v : Int64 × (Nat → Int64)} (hX : xIs (j10_with) X ((some .long)) (some (.long v.1)) (hM c_thrown c_told c_read c_many c_eights c_gains c_notes c_seen c_turns c_drawn c_state c_tape c_taped c_size c_from c_next c_token c_value c_fault c_number c_fives c_isLeft c_wentTimes c_goes c_isLeftLaid c_game c_rows c_columns c_isFound c_bestValue c_bestBelow c_bestShare c_share v.2 c_system c_shares c_allShares)) (hf : F10_with_b26 z x1 x2 c_matrix c_system = some v) : xV (j10_with) X 0 0 (hM c_thrown c_told c_read c_many c_eights c_gains c_notes c_seen c_turns c_drawn c_state c_tape c_taped c_size c_from c_next c_token c_value c_fault c_number c_fives c_isLeft c_wentTimes c_goes c_isLeftLaid c_game c_rows c_columns c_isFound c_bestValue c_bestBelow c_bestShare c_share c_matrix c_system c_shares c_allShares) 26 [(0, .ref 0), (1, .int x1), (2, .int x2)] [] := by
  unfold F10_with_b26 at hf
  refine xV_iload_n 27 rfl dX10_with_26 rfl 2 rfl ?_
  refine xV_if_lt (tgt := 66) 30 rfl dX10_with_27 (by decide) (fun h27 => ?_) (fun h27 => ?_)
  · have hf := xif_t hf h27
    refine xV_sub [0, 1] rfl ?_
    exact T10_with_b66 hX hf
  · have hf := xif_f hf h27
    refine xV_iconst 31 rfl dX10_with_30 xk_i0 ?_
    refine xV_istore_n (L' := [(3, .int (0 : Int32)), (0, .ref 0), (1, .int x1), (2, .int x2)]) 32 rfl dX10_with_31 rfl (xlt rfl) rfl ?_
    refine xV_sub [1, 2, 3, 0] rfl ?_
    exact T10_with_b32 hX _ hf
def F10_with_b2 (z : Nat) (w : Nat) (x1 : Int32) (x2 : Int32) (x3 : Int32) (c_matrix : (Nat → Int64)) (c_system : (Nat → Int64)) : Option (Int64 × (Nat → Int64)) := match w with
  | 0 => none
  | w + 1 => if (64 : Int32) ≤ x3 then (F10_with_b26 z x1 x2 c_matrix c_system) else (xg (xin x3 64) (xg (xin x3 64) (F10_with_b2 z w x1 x2 (x3 + (1 : Int32)) (vp_updL c_matrix (xn x3) (c_system (xn x3))) c_system)))
theorem T10_with_b2 {X : xX} {c_thrown : Int32} {c_told : (Nat → Int32)} {c_read : (Nat → Int32)} {c_many : (Nat → Int32)} {c_eights : (Nat → Int32)} {c_gains : (Nat → Int32)} {c_notes : (Nat → Int32)} {c_seen : (Nat → Int32)} {c_turns : (Nat → Int32)} {c_drawn : (Nat → Int32)} {c_state : Int32} {c_tape : (Nat → Int32)} {c_taped : Int32} {c_size : Int32} {c_from : Int32} {c_next : Int32} {c_token : Int32} {c_value : Int32} {c_fault : Int32} {c_number : Int32} {c_fives : (Nat → Int32)} {c_isLeft : (Nat → Int32)} {c_wentTimes : Int32} {c_goes : (Nat → Int32)} {c_isLeftLaid : Int32} {c_game : (Nat → Int32)} {c_rows : Int32} {c_columns : Int32} {c_isFound : Int32} {c_bestValue : Int64} {c_bestBelow : Int64} {c_bestShare : (Nat → Int64)} {c_share : (Nat → Int64)} {c_system : (Nat → Int64)} {c_shares : (Nat → Int32)} {c_allShares : Int32} {z : Nat} {v : Int64 × (Nat → Int64)} (hX : xIs (j10_with) X ((some .long)) (some (.long v.1)) (hM c_thrown c_told c_read c_many c_eights c_gains c_notes c_seen c_turns c_drawn c_state c_tape c_taped c_size c_from c_next c_token c_value c_fault c_number c_fives c_isLeft c_wentTimes c_goes c_isLeftLaid c_game c_rows c_columns c_isFound c_bestValue c_bestBelow c_bestShare c_share v.2 c_system c_shares c_allShares)) : ∀ (w : Nat) {x1 : Int32} {x2 : Int32} {x3 : Int32} {c_matrix : (Nat → Int64)}, F10_with_b2 z w x1 x2 x3 c_matrix c_system = some v → xV (j10_with) X 0 0 (hM c_thrown c_told c_read c_many c_eights c_gains c_notes c_seen c_turns c_drawn c_state c_tape c_taped c_size c_from c_next c_token c_value c_fault c_number c_fives c_isLeft c_wentTimes c_goes c_isLeftLaid c_game c_rows c_columns c_isFound c_bestValue c_bestBelow c_bestShare c_share c_matrix c_system c_shares c_allShares) 2 [(0, .ref 0), (1, .int x1), (2, .int x2), (3, .int x3)] [] := by
  intro w
  induction w with
  | zero => intro x1 x2 x3 c_matrix hf; cases hf
  | succ w ih =>
    intro x1 x2 x3 c_matrix hf
    unfold F10_with_b2 at hf
    refine xV_iload_n 3 rfl dX10_with_2 rfl 3 rfl ?_
    refine xV_bipush 5 rfl dX10_with_3 xk_b64 ?_
    refine xV_icmp_ge (tgt := 26) 8 rfl dX10_with_5 (by decide) (fun h5 => ?_) (fun h5 => ?_)
    · have hf := xif_t hf h5
      refine xV_sub [0, 1, 2] rfl ?_
      exact T10_with_b26 hX hf
    · have hf := xif_f hf h5
      refine xV_aload_n 9 rfl dX10_with_8 rfl 0 rfl ?_
      refine xV_get (v := .ref 17) 12 rfl dX10_with_9 f10_70 rfl rfl ?_
      refine xV_iload_n 13 rfl dX10_with_12 rfl 3 rfl ?_
      refine xV_aload_n 14 rfl dX10_with_13 rfl 0 rfl ?_
      refine xV_get (v := .ref 18) 17 rfl dX10_with_14 f10_73 rfl rfl ?_
      refine xV_iload_n 18 rfl dX10_with_17 rfl 3 rfl ?_
      obtain ⟨hg18, hf⟩ := xg_s hf
      refine xV_laload 19 rfl dX10_with_18 rfl (xin_ok hg18) rfl ?_
      obtain ⟨hg19, hf⟩ := xg_s hf
      refine xV_lastore (h' := (hM c_thrown c_told c_read c_many c_eights c_gains c_notes c_seen c_turns c_drawn c_state c_tape c_taped c_size c_from c_next c_token c_value c_fault c_number c_fives c_isLeft c_wentTimes c_goes c_isLeftLaid c_game c_rows c_columns c_isFound c_bestValue c_bestBelow c_bestShare c_share (vp_updL c_matrix (xn x3) (c_system (xn x3))) c_system c_shares c_allShares)) 20 rfl dX10_with_19 rfl (xin_ok hg19) rfl rfl ?_
      refine xV_iinc (L' := [(3, .int (x3 + (1 : Int32))), (0, .ref 0), (1, .int x1), (2, .int x2)]) 23 rfl dX10_with_20 3 rfl (xk_inc xk_i1) (xlt rfl) rfl ?_
      refine xV_goto (tgt := 2) dX10_with_23 (by decide) ?_
      refine xV_sub [1, 2, 3, 0] rfl ?_
      exact ih hf
def F10_with (z : Nat) (x1 : Int32) (x2 : Int32) (c_matrix : (Nat → Int64)) (c_system : (Nat → Int64)) : Option (Int64 × (Nat → Int64)) :=
  F10_with_b2 z z x1 x2 (0 : Int32) c_matrix c_system
theorem T10_with {X : xX} {z : Nat} {x1 : Int32} {x2 : Int32} {c_matrix : (Nat → Int64)} {c_system : (Nat → Int64)} {c_thrown : Int32} {c_told : (Nat → Int32)} {c_read : (Nat → Int32)} {c_many : (Nat → Int32)} {c_eights : (Nat → Int32)} {c_gains : (Nat → Int32)} {c_notes : (Nat → Int32)} {c_seen : (Nat → Int32)} {c_turns : (Nat → Int32)} {c_drawn : (Nat → Int32)} {c_state : Int32} {c_tape : (Nat → Int32)} {c_taped : Int32} {c_size : Int32} {c_from : Int32} {c_next : Int32} {c_token : Int32} {c_value : Int32} {c_fault : Int32} {c_number : Int32} {c_fives : (Nat → Int32)} {c_isLeft : (Nat → Int32)} {c_wentTimes : Int32} {c_goes : (Nat → Int32)} {c_isLeftLaid : Int32} {c_game : (Nat → Int32)} {c_rows : Int32} {c_columns : Int32} {c_isFound : Int32} {c_bestValue : Int64} {c_bestBelow : Int64} {c_bestShare : (Nat → Int64)} {c_share : (Nat → Int64)} {c_shares : (Nat → Int32)} {c_allShares : Int32} {v : Int64 × (Nat → Int64)} (hX : xIs (j10_with) X ((some .long)) (some (.long v.1)) (hM c_thrown c_told c_read c_many c_eights c_gains c_notes c_seen c_turns c_drawn c_state c_tape c_taped c_size c_from c_next c_token c_value c_fault c_number c_fives c_isLeft c_wentTimes c_goes c_isLeftLaid c_game c_rows c_columns c_isFound c_bestValue c_bestBelow c_bestShare c_share v.2 c_system c_shares c_allShares)) (hf : F10_with z x1 x2 c_matrix c_system = some v) : xV (j10_with) X 0 0 (hM c_thrown c_told c_read c_many c_eights c_gains c_notes c_seen c_turns c_drawn c_state c_tape c_taped c_size c_from c_next c_token c_value c_fault c_number c_fives c_isLeft c_wentTimes c_goes c_isLeftLaid c_game c_rows c_columns c_isFound c_bestValue c_bestBelow c_bestShare c_share c_matrix c_system c_shares c_allShares) 0 [(0, .ref 0), (1, .int x1), (2, .int x2)] [] := by
  unfold F10_with at hf
  refine xV_iconst 1 rfl dX10_with_0 xk_i0 ?_
  refine xV_istore_n (L' := [(3, .int (0 : Int32)), (0, .ref 0), (1, .int x1), (2, .int x2)]) 2 rfl dX10_with_1 rfl (xlt rfl) rfl ?_
  refine xV_sub [1, 2, 3, 0] rfl ?_
  exact T10_with_b2 hX _ hf
theorem C10_with (l : Launch) {z : Nat} {x1 : Int32} {x2 : Int32} {c_matrix : (Nat → Int64)} {c_system : (Nat → Int64)} {c_thrown : Int32} {c_told : (Nat → Int32)} {c_read : (Nat → Int32)} {c_many : (Nat → Int32)} {c_eights : (Nat → Int32)} {c_gains : (Nat → Int32)} {c_notes : (Nat → Int32)} {c_seen : (Nat → Int32)} {c_turns : (Nat → Int32)} {c_drawn : (Nat → Int32)} {c_state : Int32} {c_tape : (Nat → Int32)} {c_taped : Int32} {c_size : Int32} {c_from : Int32} {c_next : Int32} {c_token : Int32} {c_value : Int32} {c_fault : Int32} {c_number : Int32} {c_fives : (Nat → Int32)} {c_isLeft : (Nat → Int32)} {c_wentTimes : Int32} {c_goes : (Nat → Int32)} {c_isLeftLaid : Int32} {c_game : (Nat → Int32)} {c_rows : Int32} {c_columns : Int32} {c_isFound : Int32} {c_bestValue : Int64} {c_bestBelow : Int64} {c_bestShare : (Nat → Int64)} {c_share : (Nat → Int64)} {c_shares : (Nat → Int32)} {c_allShares : Int32} {v : Int64 × (Nat → Int64)} (hf : F10_with z x1 x2 c_matrix c_system = some v) : xCt l yX10_with ((some .long)) j10_with [.ref 0, .int x1, .int x2] (hM c_thrown c_told c_read c_many c_eights c_gains c_notes c_seen c_turns c_drawn c_state c_tape c_taped c_size c_from c_next c_token c_value c_fault c_number c_fives c_isLeft c_wentTimes c_goes c_isLeftLaid c_game c_rows c_columns c_isFound c_bestValue c_bestBelow c_bestShare c_share c_matrix c_system c_shares c_allShares) (some (.long v.1)) (hM c_thrown c_told c_read c_many c_eights c_gains c_notes c_seen c_turns c_drawn c_state c_tape c_taped c_size c_from c_next c_token c_value c_fault c_number c_fives c_isLeft c_wentTimes c_goes c_isLeftLaid c_game c_rows c_columns c_isFound c_bestValue c_bestBelow c_bestShare c_share v.2 c_system c_shares c_allShares) := xCt_of (by decide) rfl (Nat.le_of_ble_eq_true rfl) (fun _ hX => T10_with hX hf)
theorem m10_with : xMd yX10_with RX10 ((some .long)) j10_with 2 := ⟨List.mem_of_getElem? (i := 957) (by decide +kernel), List.mem_of_getElem? (i := 5) (by decide +kernel), rfl, by decide +kernel⟩
theorem v10_with : xMv yX10_with RX10 := ⟨List.mem_of_getElem? (i := 955) (by decide +kernel), List.mem_of_getElem? (i := 956) (by decide +kernel)⟩
theorem dX10_bits_0 : decode cX10_bits 0 = .ok (.iconst 0, 1) := by decide +kernel
theorem dX10_bits_1 : decode cX10_bits 1 = .ok (.istore_n 1, 1) := by decide +kernel
theorem dX10_bits_2 : decode cX10_bits 2 = .ok (.iload_n 0, 1) := by decide +kernel
theorem dX10_bits_3 : decode cX10_bits 3 = .ok (.istore_n 2, 1) := by decide +kernel
theorem dX10_bits_4 : decode cX10_bits 4 = .ok (.iload_n 2, 1) := by decide +kernel
theorem dX10_bits_5 : decode cX10_bits 5 = .ok (.ifCond .eq 15, 3) := by decide +kernel
theorem dX10_bits_8 : decode cX10_bits 8 = .ok (.iinc 1 1, 3) := by decide +kernel
theorem dX10_bits_11 : decode cX10_bits 11 = .ok (.iload_n 2, 1) := by decide +kernel
theorem dX10_bits_12 : decode cX10_bits 12 = .ok (.iload_n 2, 1) := by decide +kernel
theorem dX10_bits_13 : decode cX10_bits 13 = .ok (.iconst 1, 1) := by decide +kernel
theorem dX10_bits_14 : decode cX10_bits 14 = .ok (.isub, 1) := by decide +kernel
theorem dX10_bits_15 : decode cX10_bits 15 = .ok (.iand, 1) := by decide +kernel
theorem dX10_bits_16 : decode cX10_bits 16 = .ok (.istore_n 2, 1) := by decide +kernel
theorem dX10_bits_17 : decode cX10_bits 17 = .ok (.goto (-13), 3) := by decide +kernel
theorem dX10_bits_20 : decode cX10_bits 20 = .ok (.iload_n 1, 1) := by decide +kernel
theorem dX10_bits_21 : decode cX10_bits 21 = .ok (.ireturn, 1) := by decide +kernel
abbrev j10_bits : xJ := (cX10_bits, 3, RX10, 1, 0, 0)
def F10_bits_b4 (z : Nat) (w : Nat) (x1 : Int32) (x2 : Int32) : Option (Int32) := match w with
  | 0 => none
  | w + 1 => if x2 = 0 then (some (x1)) else (F10_bits_b4 z w (x1 + (1 : Int32)) (x2 &&& (x2 - (1 : Int32))))
theorem T10_bits_b4 {X : xX}  {z : Nat} {v : Int32} (hX : xIs (j10_bits) X ((some .int)) (some (.int v)) ([] : xHp)) : ∀ (w : Nat) {x1 : Int32} {x2 : Int32}, F10_bits_b4 z w x1 x2 = some v → xV (j10_bits) X 0 0 ([] : xHp) 4 [(1, .int x1), (2, .int x2)] [] := by
  intro w
  induction w with
  | zero => intro x1 x2 hf; cases hf
  | succ w ih =>
    intro x1 x2 hf
    unfold F10_bits_b4 at hf
    refine xV_iload_n 5 rfl dX10_bits_4 rfl 1 rfl ?_
    refine xV_if_eq (tgt := 20) 8 rfl dX10_bits_5 (by decide) (fun h5 => ?_) (fun h5 => ?_)
    · have hf := xif_t hf h5
      refine xV_iload_n 21 rfl dX10_bits_20 rfl 0 rfl ?_
      obtain rfl := Option.some.inj hf
      exact xV_iret hX dX10_bits_21 rfl (Nat.zero_le _) (Nat.zero_le _)
    · have hf := xif_f hf h5
      refine xV_iinc (L' := [(1, .int (x1 + (1 : Int32))), (2, .int x2)]) 11 rfl dX10_bits_8 0 rfl (xk_inc xk_i1) (xlt rfl) rfl ?_
      refine xV_iload_n 12 rfl dX10_bits_11 rfl 1 rfl ?_
      refine xV_iload_n 13 rfl dX10_bits_12 rfl 1 rfl ?_
      refine xV_iconst 14 rfl dX10_bits_13 xk_i1 ?_
      refine xV_isub 15 rfl dX10_bits_14 ?_
      refine xV_iand 16 rfl dX10_bits_15 ?_
      refine xV_istore_n (L' := [(2, .int (x2 &&& (x2 - (1 : Int32)))), (1, .int (x1 + (1 : Int32)))]) 17 rfl dX10_bits_16 rfl (xlt rfl) rfl ?_
      refine xV_goto (tgt := 4) dX10_bits_17 (by decide) ?_
      refine xV_sub [1, 0] rfl ?_
      exact ih hf
def F10_bits (z : Nat) (x0 : Int32) : Option (Int32) :=
  F10_bits_b4 z z (0 : Int32) x0
theorem T10_bits {X : xX} {z : Nat} {x0 : Int32}  {v : Int32} (hX : xIs (j10_bits) X ((some .int)) (some (.int v)) ([] : xHp)) (hf : F10_bits z x0 = some v) : xV (j10_bits) X 0 0 ([] : xHp) 0 [(0, .int x0)] [] := by
  unfold F10_bits at hf
  refine xV_iconst 1 rfl dX10_bits_0 xk_i0 ?_
  refine xV_istore_n (L' := [(1, .int (0 : Int32)), (0, .int x0)]) 2 rfl dX10_bits_1 rfl (xlt rfl) rfl ?_
  refine xV_iload_n 3 rfl dX10_bits_2 rfl 1 rfl ?_
  refine xV_istore_n (L' := [(2, .int x0), (1, .int (0 : Int32)), (0, .int x0)]) 4 rfl dX10_bits_3 rfl (xlt rfl) rfl ?_
  refine xV_sub [1, 0] rfl ?_
  exact T10_bits_b4 hX _ hf
theorem C10_bits (l : Launch) {z : Nat} {x0 : Int32}  {v : Int32} (hf : F10_bits z x0 = some v) : xCt l yX10_bits ((some .int)) j10_bits [.int x0] ([] : xHp) (some (.int v)) ([] : xHp) := xCt_of (by decide) rfl (Nat.le_of_ble_eq_true rfl) (fun _ hX => T10_bits hX hf)
theorem m10_bits : xMd yX10_bits RX10 ((some .int)) j10_bits 1 := ⟨List.mem_of_getElem? (i := 946) (by decide +kernel), List.mem_of_getElem? (i := 5) (by decide +kernel), rfl, by decide +kernel⟩
theorem s10_bits : Cond.static yX10_bits ∈ wsL_law0 := List.mem_of_getElem? (i := 945) (by decide +kernel)
theorem dX10_has_0 : decode cX10_has 0 = .ok (.iload_n 0, 1) := by decide +kernel
theorem dX10_has_1 : decode cX10_has 1 = .ok (.iload_n 1, 1) := by decide +kernel
theorem dX10_has_2 : decode cX10_has 2 = .ok (.ishr, 1) := by decide +kernel
theorem dX10_has_3 : decode cX10_has 3 = .ok (.iconst 1, 1) := by decide +kernel
theorem dX10_has_4 : decode cX10_has 4 = .ok (.iand, 1) := by decide +kernel
theorem dX10_has_5 : decode cX10_has 5 = .ok (.iconst 1, 1) := by decide +kernel
theorem dX10_has_6 : decode cX10_has 6 = .ok (.if_icmp .ne 7, 3) := by decide +kernel
theorem dX10_has_9 : decode cX10_has 9 = .ok (.iconst 1, 1) := by decide +kernel
theorem dX10_has_10 : decode cX10_has 10 = .ok (.goto 4, 3) := by decide +kernel
theorem dX10_has_13 : decode cX10_has 13 = .ok (.iconst 0, 1) := by decide +kernel
theorem dX10_has_14 : decode cX10_has 14 = .ok (.ireturn, 1) := by decide +kernel
abbrev j10_has : xJ := (cX10_has, 2, RX10, 1, 0, 0)
def F10_has (x0 : Int32) (x1 : Int32) : Option (Int32) :=
  if ((x0 >>> (x1 &&& 31)) &&& (1 : Int32)) = (1 : Int32) then (some ((1 : Int32))) else (some ((0 : Int32)))
theorem T10_has {X : xX} {x0 : Int32} {x1 : Int32}  {v : Int32} (hX : xIs (j10_has) X ((some .boolean)) (some (.int v)) ([] : xHp)) (hf : F10_has x0 x1 = some v) : xV (j10_has) X 0 0 ([] : xHp) 0 [(0, .int x0), (1, .int x1)] [] := by
  unfold F10_has at hf
  refine xV_iload_n 1 rfl dX10_has_0 rfl 0 rfl ?_
  refine xV_iload_n 2 rfl dX10_has_1 rfl 1 rfl ?_
  refine xV_ishr 3 rfl dX10_has_2 ?_
  refine xV_iconst 4 rfl dX10_has_3 xk_i1 ?_
  refine xV_iand 5 rfl dX10_has_4 ?_
  refine xV_iconst 6 rfl dX10_has_5 xk_i1 ?_
  refine xV_icmp_ne (tgt := 13) 9 rfl dX10_has_6 (by decide) (fun h6 => ?_) (fun h6 => ?_)
  · have hf := xif_f hf h6
    refine xV_iconst 14 rfl dX10_has_13 xk_i0 ?_
    obtain rfl := Option.some.inj hf
    exact xV_iret hX dX10_has_14 (xbo_ok rfl) (Nat.zero_le _) (Nat.zero_le _)
  · have hf := xif_t hf h6
    refine xV_iconst 10 rfl dX10_has_9 xk_i1 ?_
    refine xV_goto (tgt := 14) dX10_has_10 (by decide) ?_
    obtain rfl := Option.some.inj hf
    exact xV_iret hX dX10_has_14 (xbo_ok rfl) (Nat.zero_le _) (Nat.zero_le _)
theorem C10_has (l : Launch) {x0 : Int32} {x1 : Int32}  {v : Int32} (hf : F10_has x0 x1 = some v) : xCt l yX10_has ((some .boolean)) j10_has [.int x0, .int x1] ([] : xHp) (some (.int v)) ([] : xHp) := xCt_of (by decide) rfl (Nat.le_of_ble_eq_true rfl) (fun _ hX => T10_has hX hf)
theorem m10_has : xMd yX10_has RX10 ((some .boolean)) j10_has 2 := ⟨List.mem_of_getElem? (i := 953) (by decide +kernel), List.mem_of_getElem? (i := 5) (by decide +kernel), rfl, by decide +kernel⟩
theorem s10_has : Cond.static yX10_has ∈ wsL_law0 := List.mem_of_getElem? (i := 952) (by decide +kernel)
theorem xk_in0_8 : vp_in (0 : Int32) 8 := xin_ok (by decide)
theorem f10_67 : xFl RX10 67 10 32 := ⟨_, rfl, by decide, List.mem_of_getElem? (i := 140) (by decide +kernel)⟩
theorem dX10_isLawful_0 : decode cX10_isLawful 0 = .ok (.iconst 1, 1) := by decide +kernel
theorem dX10_isLawful_1 : decode cX10_isLawful 1 = .ok (.istore_n 3, 1) := by decide +kernel
theorem dX10_isLawful_2 : decode cX10_isLawful 2 = .ok (.iconst 0, 1) := by decide +kernel
theorem dX10_isLawful_3 : decode cX10_isLawful 3 = .ok (.istore 4, 2) := by decide +kernel
theorem dX10_isLawful_5 : decode cX10_isLawful 5 = .ok (.iload 4, 2) := by decide +kernel
theorem dX10_isLawful_7 : decode cX10_isLawful 7 = .ok (.aload_n 0, 1) := by decide +kernel
theorem dX10_isLawful_8 : decode cX10_isLawful 8 = .ok (.getfield 253, 3) := by decide +kernel
theorem dX10_isLawful_11 : decode cX10_isLawful 11 = .ok (.if_icmp .ge 31, 3) := by decide +kernel
theorem dX10_isLawful_14 : decode cX10_isLawful 14 = .ok (.iload_n 3, 1) := by decide +kernel
theorem dX10_isLawful_15 : decode cX10_isLawful 15 = .ok (.ifCond .eq 19, 3) := by decide +kernel
theorem dX10_isLawful_18 : decode cX10_isLawful 18 = .ok (.aload_n 0, 1) := by decide +kernel
theorem dX10_isLawful_19 : decode cX10_isLawful 19 = .ok (.getfield 67, 3) := by decide +kernel
theorem dX10_isLawful_22 : decode cX10_isLawful 22 = .ok (.iload 4, 2) := by decide +kernel
theorem dX10_isLawful_24 : decode cX10_isLawful 24 = .ok (.laload, 1) := by decide +kernel
theorem dX10_isLawful_25 : decode cX10_isLawful 25 = .ok (.lconst 0, 1) := by decide +kernel
theorem dX10_isLawful_26 : decode cX10_isLawful 26 = .ok (.lcmp, 1) := by decide +kernel
theorem dX10_isLawful_27 : decode cX10_isLawful 27 = .ok (.ifCond .lt 7, 3) := by decide +kernel
theorem dX10_isLawful_30 : decode cX10_isLawful 30 = .ok (.iconst 1, 1) := by decide +kernel
theorem dX10_isLawful_31 : decode cX10_isLawful 31 = .ok (.goto 4, 3) := by decide +kernel
theorem dX10_isLawful_34 : decode cX10_isLawful 34 = .ok (.iconst 0, 1) := by decide +kernel
theorem dX10_isLawful_35 : decode cX10_isLawful 35 = .ok (.istore_n 3, 1) := by decide +kernel
theorem dX10_isLawful_36 : decode cX10_isLawful 36 = .ok (.iinc 4 1, 3) := by decide +kernel
theorem dX10_isLawful_39 : decode cX10_isLawful 39 = .ok (.goto (-34), 3) := by decide +kernel
theorem dX10_isLawful_42 : decode cX10_isLawful 42 = .ok (.iconst 0, 1) := by decide +kernel
theorem dX10_isLawful_43 : decode cX10_isLawful 43 = .ok (.istore 4, 2) := by decide +kernel
theorem dX10_isLawful_45 : decode cX10_isLawful 45 = .ok (.iload 4, 2) := by decide +kernel
theorem dX10_isLawful_47 : decode cX10_isLawful 47 = .ok (.aload_n 0, 1) := by decide +kernel
theorem dX10_isLawful_48 : decode cX10_isLawful 48 = .ok (.getfield 256, 3) := by decide +kernel
theorem dX10_isLawful_51 : decode cX10_isLawful 51 = .ok (.if_icmp .ge 74, 3) := by decide +kernel
theorem dX10_isLawful_54 : decode cX10_isLawful 54 = .ok (.lconst 0, 1) := by decide +kernel
theorem dX10_isLawful_55 : decode cX10_isLawful 55 = .ok (.lstore 5, 2) := by decide +kernel
theorem dX10_isLawful_57 : decode cX10_isLawful 57 = .ok (.iconst 0, 1) := by decide +kernel
theorem dX10_isLawful_58 : decode cX10_isLawful 58 = .ok (.istore 7, 2) := by decide +kernel
theorem dX10_isLawful_60 : decode cX10_isLawful 60 = .ok (.iload 7, 2) := by decide +kernel
theorem dX10_isLawful_62 : decode cX10_isLawful 62 = .ok (.aload_n 0, 1) := by decide +kernel
theorem dX10_isLawful_63 : decode cX10_isLawful 63 = .ok (.getfield 253, 3) := by decide +kernel
theorem dX10_isLawful_66 : decode cX10_isLawful 66 = .ok (.if_icmp .ge 36, 3) := by decide +kernel
theorem dX10_isLawful_69 : decode cX10_isLawful 69 = .ok (.lload 5, 2) := by decide +kernel
theorem dX10_isLawful_71 : decode cX10_isLawful 71 = .ok (.aload_n 0, 1) := by decide +kernel
theorem dX10_isLawful_72 : decode cX10_isLawful 72 = .ok (.getfield 67, 3) := by decide +kernel
theorem dX10_isLawful_75 : decode cX10_isLawful 75 = .ok (.iload 7, 2) := by decide +kernel
theorem dX10_isLawful_77 : decode cX10_isLawful 77 = .ok (.laload, 1) := by decide +kernel
theorem dX10_isLawful_78 : decode cX10_isLawful 78 = .ok (.aload_n 0, 1) := by decide +kernel
theorem dX10_isLawful_79 : decode cX10_isLawful 79 = .ok (.getfield 60, 3) := by decide +kernel
theorem dX10_isLawful_82 : decode cX10_isLawful 82 = .ok (.bipush 8, 2) := by decide +kernel
theorem dX10_isLawful_84 : decode cX10_isLawful 84 = .ok (.iload 7, 2) := by decide +kernel
theorem dX10_isLawful_86 : decode cX10_isLawful 86 = .ok (.imul, 1) := by decide +kernel
theorem dX10_isLawful_87 : decode cX10_isLawful 87 = .ok (.iload 4, 2) := by decide +kernel
theorem dX10_isLawful_89 : decode cX10_isLawful 89 = .ok (.iadd, 1) := by decide +kernel
theorem dX10_isLawful_90 : decode cX10_isLawful 90 = .ok (.iaload, 1) := by decide +kernel
theorem dX10_isLawful_91 : decode cX10_isLawful 91 = .ok (.i2l, 1) := by decide +kernel
theorem dX10_isLawful_92 : decode cX10_isLawful 92 = .ok (.lmul, 1) := by decide +kernel
theorem dX10_isLawful_93 : decode cX10_isLawful 93 = .ok (.ladd, 1) := by decide +kernel
theorem dX10_isLawful_94 : decode cX10_isLawful 94 = .ok (.lstore 5, 2) := by decide +kernel
theorem dX10_isLawful_96 : decode cX10_isLawful 96 = .ok (.iinc 7 1, 3) := by decide +kernel
theorem dX10_isLawful_99 : decode cX10_isLawful 99 = .ok (.goto (-39), 3) := by decide +kernel
theorem dX10_isLawful_102 : decode cX10_isLawful 102 = .ok (.iload_n 3, 1) := by decide +kernel
theorem dX10_isLawful_103 : decode cX10_isLawful 103 = .ok (.ifCond .eq 14, 3) := by decide +kernel
theorem dX10_isLawful_106 : decode cX10_isLawful 106 = .ok (.lload 5, 2) := by decide +kernel
theorem dX10_isLawful_108 : decode cX10_isLawful 108 = .ok (.lload_n 1, 1) := by decide +kernel
theorem dX10_isLawful_109 : decode cX10_isLawful 109 = .ok (.lcmp, 1) := by decide +kernel
theorem dX10_isLawful_110 : decode cX10_isLawful 110 = .ok (.ifCond .lt 7, 3) := by decide +kernel
theorem dX10_isLawful_113 : decode cX10_isLawful 113 = .ok (.iconst 1, 1) := by decide +kernel
theorem dX10_isLawful_114 : decode cX10_isLawful 114 = .ok (.goto 4, 3) := by decide +kernel
theorem dX10_isLawful_117 : decode cX10_isLawful 117 = .ok (.iconst 0, 1) := by decide +kernel
theorem dX10_isLawful_118 : decode cX10_isLawful 118 = .ok (.istore_n 3, 1) := by decide +kernel
theorem dX10_isLawful_119 : decode cX10_isLawful 119 = .ok (.iinc 4 1, 3) := by decide +kernel
theorem dX10_isLawful_122 : decode cX10_isLawful 122 = .ok (.goto (-77), 3) := by decide +kernel
theorem dX10_isLawful_125 : decode cX10_isLawful 125 = .ok (.iload_n 3, 1) := by decide +kernel
theorem dX10_isLawful_126 : decode cX10_isLawful 126 = .ok (.ireturn, 1) := by decide +kernel
abbrev j10_isLawful : xJ := (cX10_isLawful, 8, RX10, 1, 0, 0)
def F10_isLawful_b118 (z : Nat) (x1 : Int64) (x4 : Int32) (s0 : Int32) (c_game : (Nat → Int32)) (c_rows : Int32) (c_columns : Int32) (c_share : (Nat → Int64)) (k45 : Int64 → Int32 → Int32 → (Nat → Int32) → Int32 → Int32 → (Nat → Int64) → Option (Int32)) : Option (Int32) :=
  k45 x1 s0 (x4 + (1 : Int32)) c_game c_rows c_columns c_share
theorem T10_isLawful_b118 {X : xX} {c_thrown : Int32} {c_told : (Nat → Int32)} {c_read : (Nat → Int32)} {c_many : (Nat → Int32)} {c_eights : (Nat → Int32)} {c_gains : (Nat → Int32)} {c_notes : (Nat → Int32)} {c_seen : (Nat → Int32)} {c_turns : (Nat → Int32)} {c_drawn : (Nat → Int32)} {c_state : Int32} {c_tape : (Nat → Int32)} {c_taped : Int32} {c_size : Int32} {c_from : Int32} {c_next : Int32} {c_token : Int32} {c_value : Int32} {c_fault : Int32} {c_number : Int32} {c_fives : (Nat → Int32)} {c_isLeft : (Nat → Int32)} {c_wentTimes : Int32} {c_goes : (Nat → Int32)} {c_isLeftLaid : Int32} {c_isFound : Int32} {c_bestValue : Int64} {c_bestBelow : Int64} {c_bestShare : (Nat → Int64)} {c_matrix : (Nat → Int64)} {c_system : (Nat → Int64)} {c_shares : (Nat → Int32)} {c_allShares : Int32} {x1 : Int64} {x4 : Int32} {s0 : Int32} {c_game : (Nat → Int32)} {c_rows : Int32} {c_columns : Int32} {c_share : (Nat → Int64)} {z : Nat} {v : Int32} {k45 : Int64 → Int32 → Int32 → (Nat → Int32) → Int32 → Int32 → (Nat → Int64) → Option (Int32)} (hX : xIs (j10_isLawful) X ((some .boolean)) (some (.int v)) (hM c_thrown c_told c_read c_many c_eights c_gains c_notes c_seen c_turns c_drawn c_state c_tape c_taped c_size c_from c_next c_token c_value c_fault c_number c_fives c_isLeft c_wentTimes c_goes c_isLeftLaid c_game c_rows c_columns c_isFound c_bestValue c_bestBelow c_bestShare c_share c_matrix c_system c_shares c_allShares)) (hk45 : ∀ {x1 : Int64} {x3 : Int32} {x4 : Int32}, k45 x1 x3 x4 c_game c_rows c_columns c_share = some v → xV (j10_isLawful) X 0 0 (hM c_thrown c_told c_read c_many c_eights c_gains c_notes c_seen c_turns c_drawn c_state c_tape c_taped c_size c_from c_next c_token c_value c_fault c_number c_fives c_isLeft c_wentTimes c_goes c_isLeftLaid c_game c_rows c_columns c_isFound c_bestValue c_bestBelow c_bestShare c_share c_matrix c_system c_shares c_allShares) 45 [(0, .ref 0), (1, .long x1), (3, .int x3), (4, .int x4)] []) (hf : F10_isLawful_b118 z x1 x4 s0 c_game c_rows c_columns c_share k45 = some v) : xV (j10_isLawful) X 0 0 (hM c_thrown c_told c_read c_many c_eights c_gains c_notes c_seen c_turns c_drawn c_state c_tape c_taped c_size c_from c_next c_token c_value c_fault c_number c_fives c_isLeft c_wentTimes c_goes c_isLeftLaid c_game c_rows c_columns c_isFound c_bestValue c_bestBelow c_bestShare c_share c_matrix c_system c_shares c_allShares) 118 [(0, .ref 0), (1, .long x1), (4, .int x4)] [.int s0] := by
  unfold F10_isLawful_b118 at hf
  refine xV_istore_n (L' := [(3, .int s0), (0, .ref 0), (1, .long x1), (4, .int x4)]) 119 rfl dX10_isLawful_118 rfl (xlt rfl) rfl ?_
  refine xV_iinc (L' := [(4, .int (x4 + (1 : Int32))), (3, .int s0), (0, .ref 0), (1, .long x1)]) 122 rfl dX10_isLawful_119 3 rfl (xk_inc xk_i1) (xlt rfl) rfl ?_
  refine xV_goto (tgt := 45) dX10_isLawful_122 (by decide) ?_
  refine xV_sub [2, 3, 1, 0] rfl ?_
  exact hk45 hf
def F10_isLawful_b102 (z : Nat) (x1 : Int64) (x3 : Int32) (x4 : Int32) (x5 : Int64) (c_game : (Nat → Int32)) (c_rows : Int32) (c_columns : Int32) (c_share : (Nat → Int64)) (k45 : Int64 → Int32 → Int32 → (Nat → Int32) → Int32 → Int32 → (Nat → Int64) → Option (Int32)) : Option (Int32) :=
  if x3 = 0 then (F10_isLawful_b118 z x1 x4 (0 : Int32) c_game c_rows c_columns c_share k45) else (if (lg_cmp x5 x1) < 0 then (F10_isLawful_b118 z x1 x4 (0 : Int32) c_game c_rows c_columns c_share k45) else (F10_isLawful_b118 z x1 x4 (1 : Int32) c_game c_rows c_columns c_share k45))
theorem T10_isLawful_b102 {X : xX} {c_thrown : Int32} {c_told : (Nat → Int32)} {c_read : (Nat → Int32)} {c_many : (Nat → Int32)} {c_eights : (Nat → Int32)} {c_gains : (Nat → Int32)} {c_notes : (Nat → Int32)} {c_seen : (Nat → Int32)} {c_turns : (Nat → Int32)} {c_drawn : (Nat → Int32)} {c_state : Int32} {c_tape : (Nat → Int32)} {c_taped : Int32} {c_size : Int32} {c_from : Int32} {c_next : Int32} {c_token : Int32} {c_value : Int32} {c_fault : Int32} {c_number : Int32} {c_fives : (Nat → Int32)} {c_isLeft : (Nat → Int32)} {c_wentTimes : Int32} {c_goes : (Nat → Int32)} {c_isLeftLaid : Int32} {c_isFound : Int32} {c_bestValue : Int64} {c_bestBelow : Int64} {c_bestShare : (Nat → Int64)} {c_matrix : (Nat → Int64)} {c_system : (Nat → Int64)} {c_shares : (Nat → Int32)} {c_allShares : Int32} {x1 : Int64} {x3 : Int32} {x4 : Int32} {x5 : Int64} {c_game : (Nat → Int32)} {c_rows : Int32} {c_columns : Int32} {c_share : (Nat → Int64)} {z : Nat} {v : Int32} {k45 : Int64 → Int32 → Int32 → (Nat → Int32) → Int32 → Int32 → (Nat → Int64) → Option (Int32)} (hX : xIs (j10_isLawful) X ((some .boolean)) (some (.int v)) (hM c_thrown c_told c_read c_many c_eights c_gains c_notes c_seen c_turns c_drawn c_state c_tape c_taped c_size c_from c_next c_token c_value c_fault c_number c_fives c_isLeft c_wentTimes c_goes c_isLeftLaid c_game c_rows c_columns c_isFound c_bestValue c_bestBelow c_bestShare c_share c_matrix c_system c_shares c_allShares)) (hk45 : ∀ {x1 : Int64} {x3 : Int32} {x4 : Int32}, k45 x1 x3 x4 c_game c_rows c_columns c_share = some v → xV (j10_isLawful) X 0 0 (hM c_thrown c_told c_read c_many c_eights c_gains c_notes c_seen c_turns c_drawn c_state c_tape c_taped c_size c_from c_next c_token c_value c_fault c_number c_fives c_isLeft c_wentTimes c_goes c_isLeftLaid c_game c_rows c_columns c_isFound c_bestValue c_bestBelow c_bestShare c_share c_matrix c_system c_shares c_allShares) 45 [(0, .ref 0), (1, .long x1), (3, .int x3), (4, .int x4)] []) (hf : F10_isLawful_b102 z x1 x3 x4 x5 c_game c_rows c_columns c_share k45 = some v) : xV (j10_isLawful) X 0 0 (hM c_thrown c_told c_read c_many c_eights c_gains c_notes c_seen c_turns c_drawn c_state c_tape c_taped c_size c_from c_next c_token c_value c_fault c_number c_fives c_isLeft c_wentTimes c_goes c_isLeftLaid c_game c_rows c_columns c_isFound c_bestValue c_bestBelow c_bestShare c_share c_matrix c_system c_shares c_allShares) 102 [(0, .ref 0), (1, .long x1), (3, .int x3), (4, .int x4), (5, .long x5)] [] := by
  unfold F10_isLawful_b102 at hf
  refine xV_iload_n 103 rfl dX10_isLawful_102 rfl 2 rfl ?_
  refine xV_if_eq (tgt := 117) 106 rfl dX10_isLawful_103 (by decide) (fun h103 => ?_) (fun h103 => ?_)
  · have hf := xif_t hf h103
    refine xV_iconst 118 rfl dX10_isLawful_117 xk_i0 ?_
    refine xV_sub [0, 1, 3] rfl ?_
    exact T10_isLawful_b118 hX hk45 hf
  · have hf := xif_f hf h103
    refine xV_lload 108 rfl dX10_isLawful_106 4 rfl ?_
    refine xV_lload_n 109 rfl dX10_isLawful_108 rfl 1 rfl ?_
    refine xV_lcmp 110 rfl dX10_isLawful_109 ?_
    refine xV_if_lt (tgt := 117) 113 rfl dX10_isLawful_110 (by decide) (fun h110 => ?_) (fun h110 => ?_)
    · have hf := xif_t hf h110
      refine xV_iconst 118 rfl dX10_isLawful_117 xk_i0 ?_
      refine xV_sub [0, 1, 3] rfl ?_
      exact T10_isLawful_b118 hX hk45 hf
    · have hf := xif_f hf h110
      refine xV_iconst 114 rfl dX10_isLawful_113 xk_i1 ?_
      refine xV_goto (tgt := 118) dX10_isLawful_114 (by decide) ?_
      refine xV_sub [0, 1, 3] rfl ?_
      exact T10_isLawful_b118 hX hk45 hf
def F10_isLawful_b60 (z : Nat) (w : Nat) (x1 : Int64) (x3 : Int32) (x4 : Int32) (x5 : Int64) (x7 : Int32) (c_game : (Nat → Int32)) (c_rows : Int32) (c_columns : Int32) (c_share : (Nat → Int64)) (k45 : Int64 → Int32 → Int32 → (Nat → Int32) → Int32 → Int32 → (Nat → Int64) → Option (Int32)) : Option (Int32) := match w with
  | 0 => none
  | w + 1 => if c_rows ≤ x7 then (F10_isLawful_b102 z x1 x3 x4 x5 c_game c_rows c_columns c_share k45) else (xg (xin x7 8) (xg (xin (((8 : Int32) * x7) + x4) 64) (F10_isLawful_b60 z w x1 x3 x4 (x5 + ((c_share (xn x7)) * ((c_game (xn (((8 : Int32) * x7) + x4)))).toInt64)) (x7 + (1 : Int32)) c_game c_rows c_columns c_share k45)))
theorem T10_isLawful_b60 {X : xX} {c_thrown : Int32} {c_told : (Nat → Int32)} {c_read : (Nat → Int32)} {c_many : (Nat → Int32)} {c_eights : (Nat → Int32)} {c_gains : (Nat → Int32)} {c_notes : (Nat → Int32)} {c_seen : (Nat → Int32)} {c_turns : (Nat → Int32)} {c_drawn : (Nat → Int32)} {c_state : Int32} {c_tape : (Nat → Int32)} {c_taped : Int32} {c_size : Int32} {c_from : Int32} {c_next : Int32} {c_token : Int32} {c_value : Int32} {c_fault : Int32} {c_number : Int32} {c_fives : (Nat → Int32)} {c_isLeft : (Nat → Int32)} {c_wentTimes : Int32} {c_goes : (Nat → Int32)} {c_isLeftLaid : Int32} {c_game : (Nat → Int32)} {c_rows : Int32} {c_columns : Int32} {c_isFound : Int32} {c_bestValue : Int64} {c_bestBelow : Int64} {c_bestShare : (Nat → Int64)} {c_share : (Nat → Int64)} {c_matrix : (Nat → Int64)} {c_system : (Nat → Int64)} {c_shares : (Nat → Int32)} {c_allShares : Int32} {z : Nat} {v : Int32} {k45 : Int64 → Int32 → Int32 → (Nat → Int32) → Int32 → Int32 → (Nat → Int64) → Option (Int32)} (hX : xIs (j10_isLawful) X ((some .boolean)) (some (.int v)) (hM c_thrown c_told c_read c_many c_eights c_gains c_notes c_seen c_turns c_drawn c_state c_tape c_taped c_size c_from c_next c_token c_value c_fault c_number c_fives c_isLeft c_wentTimes c_goes c_isLeftLaid c_game c_rows c_columns c_isFound c_bestValue c_bestBelow c_bestShare c_share c_matrix c_system c_shares c_allShares)) (hk45 : ∀ {x1 : Int64} {x3 : Int32} {x4 : Int32}, k45 x1 x3 x4 c_game c_rows c_columns c_share = some v → xV (j10_isLawful) X 0 0 (hM c_thrown c_told c_read c_many c_eights c_gains c_notes c_seen c_turns c_drawn c_state c_tape c_taped c_size c_from c_next c_token c_value c_fault c_number c_fives c_isLeft c_wentTimes c_goes c_isLeftLaid c_game c_rows c_columns c_isFound c_bestValue c_bestBelow c_bestShare c_share c_matrix c_system c_shares c_allShares) 45 [(0, .ref 0), (1, .long x1), (3, .int x3), (4, .int x4)] []) : ∀ (w : Nat) {x1 : Int64} {x3 : Int32} {x4 : Int32} {x5 : Int64} {x7 : Int32}, F10_isLawful_b60 z w x1 x3 x4 x5 x7 c_game c_rows c_columns c_share k45 = some v → xV (j10_isLawful) X 0 0 (hM c_thrown c_told c_read c_many c_eights c_gains c_notes c_seen c_turns c_drawn c_state c_tape c_taped c_size c_from c_next c_token c_value c_fault c_number c_fives c_isLeft c_wentTimes c_goes c_isLeftLaid c_game c_rows c_columns c_isFound c_bestValue c_bestBelow c_bestShare c_share c_matrix c_system c_shares c_allShares) 60 [(0, .ref 0), (1, .long x1), (3, .int x3), (4, .int x4), (5, .long x5), (7, .int x7)] [] := by
  intro w
  induction w with
  | zero => intro x1 x3 x4 x5 x7 hf; cases hf
  | succ w ih =>
    intro x1 x3 x4 x5 x7 hf
    unfold F10_isLawful_b60 at hf
    refine xV_iload 62 rfl dX10_isLawful_60 5 rfl ?_
    refine xV_aload_n 63 rfl dX10_isLawful_62 rfl 0 rfl ?_
    refine xV_get (v := .int c_rows) 66 rfl dX10_isLawful_63 f10_253 rfl rfl ?_
    refine xV_icmp_ge (tgt := 102) 69 rfl dX10_isLawful_66 (by decide) (fun h66 => ?_) (fun h66 => ?_)
    · have hf := xif_t hf h66
      refine xV_sub [0, 1, 2, 3, 4] rfl ?_
      exact T10_isLawful_b102 hX hk45 hf
    · have hf := xif_f hf h66
      refine xV_lload 71 rfl dX10_isLawful_69 4 rfl ?_
      refine xV_aload_n 72 rfl dX10_isLawful_71 rfl 0 rfl ?_
      refine xV_get (v := .ref 16) 75 rfl dX10_isLawful_72 f10_67 rfl rfl ?_
      refine xV_iload 77 rfl dX10_isLawful_75 5 rfl ?_
      obtain ⟨hg77, hf⟩ := xg_s hf
      refine xV_laload 78 rfl dX10_isLawful_77 rfl (xin_ok hg77) rfl ?_
      refine xV_aload_n 79 rfl dX10_isLawful_78 rfl 0 rfl ?_
      refine xV_get (v := .ref 14) 82 rfl dX10_isLawful_79 f10_60 rfl rfl ?_
      refine xV_bipush 84 rfl dX10_isLawful_82 xk_b8 ?_
      refine xV_iload 86 rfl dX10_isLawful_84 5 rfl ?_
      refine xV_imul 87 rfl dX10_isLawful_86 ?_
      refine xV_iload 89 rfl dX10_isLawful_87 3 rfl ?_
      refine xV_iadd 90 rfl dX10_isLawful_89 ?_
      obtain ⟨hg90, hf⟩ := xg_s hf
      refine xV_iaload 91 rfl dX10_isLawful_90 rfl (xin_ok hg90) rfl ?_
      refine xV_i2l 92 rfl dX10_isLawful_91 ?_
      refine xV_lmul 93 rfl dX10_isLawful_92 ?_
      refine xV_ladd 94 rfl dX10_isLawful_93 ?_
      refine xV_lstore (L' := [(5, .long (x5 + ((c_share (xn x7)) * ((c_game (xn (((8 : Int32) * x7) + x4)))).toInt64))), (0, .ref 0), (1, .long x1), (3, .int x3), (4, .int x4), (7, .int x7)]) 96 rfl dX10_isLawful_94 (xlt rfl) rfl ?_
      refine xV_iinc (L' := [(7, .int (x7 + (1 : Int32))), (5, .long (x5 + ((c_share (xn x7)) * ((c_game (xn (((8 : Int32) * x7) + x4)))).toInt64))), (0, .ref 0), (1, .long x1), (3, .int x3), (4, .int x4)]) 99 rfl dX10_isLawful_96 5 rfl (xk_inc xk_i1) (xlt rfl) rfl ?_
      refine xV_goto (tgt := 60) dX10_isLawful_99 (by decide) ?_
      refine xV_sub [2, 3, 4, 5, 1, 0] rfl ?_
      exact ih hf
def F10_isLawful_b45 (z : Nat) (w : Nat) (x1 : Int64) (x3 : Int32) (x4 : Int32) (c_game : (Nat → Int32)) (c_rows : Int32) (c_columns : Int32) (c_share : (Nat → Int64)) : Option (Int32) := match w with
  | 0 => none
  | w + 1 => if c_columns ≤ x4 then (xg (xbo x3) (some (x3))) else (F10_isLawful_b60 z z x1 x3 x4 (0 : Int64) (0 : Int32) c_game c_rows c_columns c_share (fun q0 q1 q2 q3 q4 q5 q6 => F10_isLawful_b45 z w q0 q1 q2 q3 q4 q5 q6))
theorem T10_isLawful_b45 {X : xX} {c_thrown : Int32} {c_told : (Nat → Int32)} {c_read : (Nat → Int32)} {c_many : (Nat → Int32)} {c_eights : (Nat → Int32)} {c_gains : (Nat → Int32)} {c_notes : (Nat → Int32)} {c_seen : (Nat → Int32)} {c_turns : (Nat → Int32)} {c_drawn : (Nat → Int32)} {c_state : Int32} {c_tape : (Nat → Int32)} {c_taped : Int32} {c_size : Int32} {c_from : Int32} {c_next : Int32} {c_token : Int32} {c_value : Int32} {c_fault : Int32} {c_number : Int32} {c_fives : (Nat → Int32)} {c_isLeft : (Nat → Int32)} {c_wentTimes : Int32} {c_goes : (Nat → Int32)} {c_isLeftLaid : Int32} {c_game : (Nat → Int32)} {c_rows : Int32} {c_columns : Int32} {c_isFound : Int32} {c_bestValue : Int64} {c_bestBelow : Int64} {c_bestShare : (Nat → Int64)} {c_share : (Nat → Int64)} {c_matrix : (Nat → Int64)} {c_system : (Nat → Int64)} {c_shares : (Nat → Int32)} {c_allShares : Int32} {z : Nat} {v : Int32} (hX : xIs (j10_isLawful) X ((some .boolean)) (some (.int v)) (hM c_thrown c_told c_read c_many c_eights c_gains c_notes c_seen c_turns c_drawn c_state c_tape c_taped c_size c_from c_next c_token c_value c_fault c_number c_fives c_isLeft c_wentTimes c_goes c_isLeftLaid c_game c_rows c_columns c_isFound c_bestValue c_bestBelow c_bestShare c_share c_matrix c_system c_shares c_allShares)) : ∀ (w : Nat) {x1 : Int64} {x3 : Int32} {x4 : Int32}, F10_isLawful_b45 z w x1 x3 x4 c_game c_rows c_columns c_share = some v → xV (j10_isLawful) X 0 0 (hM c_thrown c_told c_read c_many c_eights c_gains c_notes c_seen c_turns c_drawn c_state c_tape c_taped c_size c_from c_next c_token c_value c_fault c_number c_fives c_isLeft c_wentTimes c_goes c_isLeftLaid c_game c_rows c_columns c_isFound c_bestValue c_bestBelow c_bestShare c_share c_matrix c_system c_shares c_allShares) 45 [(0, .ref 0), (1, .long x1), (3, .int x3), (4, .int x4)] [] := by
  intro w
  induction w with
  | zero => intro x1 x3 x4 hf; cases hf
  | succ w ih =>
    intro x1 x3 x4 hf
    unfold F10_isLawful_b45 at hf
    refine xV_iload 47 rfl dX10_isLawful_45 3 rfl ?_
    refine xV_aload_n 48 rfl dX10_isLawful_47 rfl 0 rfl ?_
    refine xV_get (v := .int c_columns) 51 rfl dX10_isLawful_48 f10_256 rfl rfl ?_
    refine xV_icmp_ge (tgt := 125) 54 rfl dX10_isLawful_51 (by decide) (fun h51 => ?_) (fun h51 => ?_)
    · have hf := xif_t hf h51
      refine xV_iload_n 126 rfl dX10_isLawful_125 rfl 2 rfl ?_
      obtain ⟨hgr, hf⟩ := xg_s hf
      obtain rfl := Option.some.inj hf
      exact xV_iret hX dX10_isLawful_126 (xbo_ok hgr) (Nat.zero_le _) (Nat.zero_le _)
    · have hf := xif_f hf h51
      refine xV_lconst (v := 0) 55 rfl dX10_isLawful_54 (by decide) ?_
      refine xV_lstore (L' := [(5, .long (0 : Int64)), (0, .ref 0), (1, .long x1), (3, .int x3), (4, .int x4)]) 57 rfl dX10_isLawful_55 (xlt rfl) rfl ?_
      refine xV_iconst 58 rfl dX10_isLawful_57 xk_i0 ?_
      refine xV_istore (L' := [(7, .int (0 : Int32)), (5, .long (0 : Int64)), (0, .ref 0), (1, .long x1), (3, .int x3), (4, .int x4)]) 60 rfl dX10_isLawful_58 (xlt rfl) rfl ?_
      refine xV_sub [2, 3, 4, 5, 1, 0] rfl ?_
      exact T10_isLawful_b60 hX (fun {_ _ _} hq => ih hq) _ hf
def F10_isLawful_b42 (z : Nat) (x1 : Int64) (x3 : Int32) (c_game : (Nat → Int32)) (c_rows : Int32) (c_columns : Int32) (c_share : (Nat → Int64)) : Option (Int32) :=
  F10_isLawful_b45 z z x1 x3 (0 : Int32) c_game c_rows c_columns c_share
theorem T10_isLawful_b42 {X : xX} {c_thrown : Int32} {c_told : (Nat → Int32)} {c_read : (Nat → Int32)} {c_many : (Nat → Int32)} {c_eights : (Nat → Int32)} {c_gains : (Nat → Int32)} {c_notes : (Nat → Int32)} {c_seen : (Nat → Int32)} {c_turns : (Nat → Int32)} {c_drawn : (Nat → Int32)} {c_state : Int32} {c_tape : (Nat → Int32)} {c_taped : Int32} {c_size : Int32} {c_from : Int32} {c_next : Int32} {c_token : Int32} {c_value : Int32} {c_fault : Int32} {c_number : Int32} {c_fives : (Nat → Int32)} {c_isLeft : (Nat → Int32)} {c_wentTimes : Int32} {c_goes : (Nat → Int32)} {c_isLeftLaid : Int32} {c_isFound : Int32} {c_bestValue : Int64} {c_bestBelow : Int64} {c_bestShare : (Nat → Int64)} {c_matrix : (Nat → Int64)} {c_system : (Nat → Int64)} {c_shares : (Nat → Int32)} {c_allShares : Int32} {x1 : Int64} {x3 : Int32} {c_game : (Nat → Int32)} {c_rows : Int32} {c_columns : Int32} {c_share : (Nat → Int64)} {z : Nat} {v : Int32} (hX : xIs (j10_isLawful) X ((some .boolean)) (some (.int v)) (hM c_thrown c_told c_read c_many c_eights c_gains c_notes c_seen c_turns c_drawn c_state c_tape c_taped c_size c_from c_next c_token c_value c_fault c_number c_fives c_isLeft c_wentTimes c_goes c_isLeftLaid c_game c_rows c_columns c_isFound c_bestValue c_bestBelow c_bestShare c_share c_matrix c_system c_shares c_allShares)) (hf : F10_isLawful_b42 z x1 x3 c_game c_rows c_columns c_share = some v) : xV (j10_isLawful) X 0 0 (hM c_thrown c_told c_read c_many c_eights c_gains c_notes c_seen c_turns c_drawn c_state c_tape c_taped c_size c_from c_next c_token c_value c_fault c_number c_fives c_isLeft c_wentTimes c_goes c_isLeftLaid c_game c_rows c_columns c_isFound c_bestValue c_bestBelow c_bestShare c_share c_matrix c_system c_shares c_allShares) 42 [(0, .ref 0), (1, .long x1), (3, .int x3)] [] := by
  unfold F10_isLawful_b42 at hf
  refine xV_iconst 43 rfl dX10_isLawful_42 xk_i0 ?_
  refine xV_istore (L' := [(4, .int (0 : Int32)), (0, .ref 0), (1, .long x1), (3, .int x3)]) 45 rfl dX10_isLawful_43 (xlt rfl) rfl ?_
  refine xV_sub [1, 2, 3, 0] rfl ?_
  exact T10_isLawful_b45 hX _ hf
def F10_isLawful_b35 (z : Nat) (x1 : Int64) (x4 : Int32) (s0 : Int32) (c_game : (Nat → Int32)) (c_rows : Int32) (c_columns : Int32) (c_share : (Nat → Int64)) (k5 : Int64 → Int32 → Int32 → (Nat → Int32) → Int32 → Int32 → (Nat → Int64) → Option (Int32)) : Option (Int32) :=
  k5 x1 s0 (x4 + (1 : Int32)) c_game c_rows c_columns c_share
theorem T10_isLawful_b35 {X : xX} {c_thrown : Int32} {c_told : (Nat → Int32)} {c_read : (Nat → Int32)} {c_many : (Nat → Int32)} {c_eights : (Nat → Int32)} {c_gains : (Nat → Int32)} {c_notes : (Nat → Int32)} {c_seen : (Nat → Int32)} {c_turns : (Nat → Int32)} {c_drawn : (Nat → Int32)} {c_state : Int32} {c_tape : (Nat → Int32)} {c_taped : Int32} {c_size : Int32} {c_from : Int32} {c_next : Int32} {c_token : Int32} {c_value : Int32} {c_fault : Int32} {c_number : Int32} {c_fives : (Nat → Int32)} {c_isLeft : (Nat → Int32)} {c_wentTimes : Int32} {c_goes : (Nat → Int32)} {c_isLeftLaid : Int32} {c_isFound : Int32} {c_bestValue : Int64} {c_bestBelow : Int64} {c_bestShare : (Nat → Int64)} {c_matrix : (Nat → Int64)} {c_system : (Nat → Int64)} {c_shares : (Nat → Int32)} {c_allShares : Int32} {x1 : Int64} {x4 : Int32} {s0 : Int32} {c_game : (Nat → Int32)} {c_rows : Int32} {c_columns : Int32} {c_share : (Nat → Int64)} {z : Nat} {v : Int32} {k5 : Int64 → Int32 → Int32 → (Nat → Int32) → Int32 → Int32 → (Nat → Int64) → Option (Int32)} (hX : xIs (j10_isLawful) X ((some .boolean)) (some (.int v)) (hM c_thrown c_told c_read c_many c_eights c_gains c_notes c_seen c_turns c_drawn c_state c_tape c_taped c_size c_from c_next c_token c_value c_fault c_number c_fives c_isLeft c_wentTimes c_goes c_isLeftLaid c_game c_rows c_columns c_isFound c_bestValue c_bestBelow c_bestShare c_share c_matrix c_system c_shares c_allShares)) (hk5 : ∀ {x1 : Int64} {x3 : Int32} {x4 : Int32}, k5 x1 x3 x4 c_game c_rows c_columns c_share = some v → xV (j10_isLawful) X 0 0 (hM c_thrown c_told c_read c_many c_eights c_gains c_notes c_seen c_turns c_drawn c_state c_tape c_taped c_size c_from c_next c_token c_value c_fault c_number c_fives c_isLeft c_wentTimes c_goes c_isLeftLaid c_game c_rows c_columns c_isFound c_bestValue c_bestBelow c_bestShare c_share c_matrix c_system c_shares c_allShares) 5 [(0, .ref 0), (1, .long x1), (3, .int x3), (4, .int x4)] []) (hf : F10_isLawful_b35 z x1 x4 s0 c_game c_rows c_columns c_share k5 = some v) : xV (j10_isLawful) X 0 0 (hM c_thrown c_told c_read c_many c_eights c_gains c_notes c_seen c_turns c_drawn c_state c_tape c_taped c_size c_from c_next c_token c_value c_fault c_number c_fives c_isLeft c_wentTimes c_goes c_isLeftLaid c_game c_rows c_columns c_isFound c_bestValue c_bestBelow c_bestShare c_share c_matrix c_system c_shares c_allShares) 35 [(0, .ref 0), (1, .long x1), (4, .int x4)] [.int s0] := by
  unfold F10_isLawful_b35 at hf
  refine xV_istore_n (L' := [(3, .int s0), (0, .ref 0), (1, .long x1), (4, .int x4)]) 36 rfl dX10_isLawful_35 rfl (xlt rfl) rfl ?_
  refine xV_iinc (L' := [(4, .int (x4 + (1 : Int32))), (3, .int s0), (0, .ref 0), (1, .long x1)]) 39 rfl dX10_isLawful_36 3 rfl (xk_inc xk_i1) (xlt rfl) rfl ?_
  refine xV_goto (tgt := 5) dX10_isLawful_39 (by decide) ?_
  refine xV_sub [2, 3, 1, 0] rfl ?_
  exact hk5 hf
def F10_isLawful_b5 (z : Nat) (w : Nat) (x1 : Int64) (x3 : Int32) (x4 : Int32) (c_game : (Nat → Int32)) (c_rows : Int32) (c_columns : Int32) (c_share : (Nat → Int64)) : Option (Int32) := match w with
  | 0 => none
  | w + 1 => if c_rows ≤ x4 then (F10_isLawful_b42 z x1 x3 c_game c_rows c_columns c_share) else (if x3 = 0 then (F10_isLawful_b35 z x1 x4 (0 : Int32) c_game c_rows c_columns c_share (fun q0 q1 q2 q3 q4 q5 q6 => F10_isLawful_b5 z w q0 q1 q2 q3 q4 q5 q6)) else (xg (xin x4 8) (if (lg_cmp (c_share (xn x4)) (0 : Int64)) < 0 then (F10_isLawful_b35 z x1 x4 (0 : Int32) c_game c_rows c_columns c_share (fun q0 q1 q2 q3 q4 q5 q6 => F10_isLawful_b5 z w q0 q1 q2 q3 q4 q5 q6)) else (F10_isLawful_b35 z x1 x4 (1 : Int32) c_game c_rows c_columns c_share (fun q0 q1 q2 q3 q4 q5 q6 => F10_isLawful_b5 z w q0 q1 q2 q3 q4 q5 q6)))))
theorem T10_isLawful_b5 {X : xX} {c_thrown : Int32} {c_told : (Nat → Int32)} {c_read : (Nat → Int32)} {c_many : (Nat → Int32)} {c_eights : (Nat → Int32)} {c_gains : (Nat → Int32)} {c_notes : (Nat → Int32)} {c_seen : (Nat → Int32)} {c_turns : (Nat → Int32)} {c_drawn : (Nat → Int32)} {c_state : Int32} {c_tape : (Nat → Int32)} {c_taped : Int32} {c_size : Int32} {c_from : Int32} {c_next : Int32} {c_token : Int32} {c_value : Int32} {c_fault : Int32} {c_number : Int32} {c_fives : (Nat → Int32)} {c_isLeft : (Nat → Int32)} {c_wentTimes : Int32} {c_goes : (Nat → Int32)} {c_isLeftLaid : Int32} {c_game : (Nat → Int32)} {c_rows : Int32} {c_columns : Int32} {c_isFound : Int32} {c_bestValue : Int64} {c_bestBelow : Int64} {c_bestShare : (Nat → Int64)} {c_share : (Nat → Int64)} {c_matrix : (Nat → Int64)} {c_system : (Nat → Int64)} {c_shares : (Nat → Int32)} {c_allShares : Int32} {z : Nat} {v : Int32} (hX : xIs (j10_isLawful) X ((some .boolean)) (some (.int v)) (hM c_thrown c_told c_read c_many c_eights c_gains c_notes c_seen c_turns c_drawn c_state c_tape c_taped c_size c_from c_next c_token c_value c_fault c_number c_fives c_isLeft c_wentTimes c_goes c_isLeftLaid c_game c_rows c_columns c_isFound c_bestValue c_bestBelow c_bestShare c_share c_matrix c_system c_shares c_allShares)) : ∀ (w : Nat) {x1 : Int64} {x3 : Int32} {x4 : Int32}, F10_isLawful_b5 z w x1 x3 x4 c_game c_rows c_columns c_share = some v → xV (j10_isLawful) X 0 0 (hM c_thrown c_told c_read c_many c_eights c_gains c_notes c_seen c_turns c_drawn c_state c_tape c_taped c_size c_from c_next c_token c_value c_fault c_number c_fives c_isLeft c_wentTimes c_goes c_isLeftLaid c_game c_rows c_columns c_isFound c_bestValue c_bestBelow c_bestShare c_share c_matrix c_system c_shares c_allShares) 5 [(0, .ref 0), (1, .long x1), (3, .int x3), (4, .int x4)] [] := by
  intro w
  induction w with
  | zero => intro x1 x3 x4 hf; cases hf
  | succ w ih =>
    intro x1 x3 x4 hf
    unfold F10_isLawful_b5 at hf
    refine xV_iload 7 rfl dX10_isLawful_5 3 rfl ?_
    refine xV_aload_n 8 rfl dX10_isLawful_7 rfl 0 rfl ?_
    refine xV_get (v := .int c_rows) 11 rfl dX10_isLawful_8 f10_253 rfl rfl ?_
    refine xV_icmp_ge (tgt := 42) 14 rfl dX10_isLawful_11 (by decide) (fun h11 => ?_) (fun h11 => ?_)
    · have hf := xif_t hf h11
      refine xV_sub [0, 1, 2] rfl ?_
      exact T10_isLawful_b42 hX hf
    · have hf := xif_f hf h11
      refine xV_iload_n 15 rfl dX10_isLawful_14 rfl 2 rfl ?_
      refine xV_if_eq (tgt := 34) 18 rfl dX10_isLawful_15 (by decide) (fun h15 => ?_) (fun h15 => ?_)
      · have hf := xif_t hf h15
        refine xV_iconst 35 rfl dX10_isLawful_34 xk_i0 ?_
        refine xV_sub [0, 1, 3] rfl ?_
        exact T10_isLawful_b35 hX (fun {_ _ _} hq => ih hq) hf
      · have hf := xif_f hf h15
        refine xV_aload_n 19 rfl dX10_isLawful_18 rfl 0 rfl ?_
        refine xV_get (v := .ref 16) 22 rfl dX10_isLawful_19 f10_67 rfl rfl ?_
        refine xV_iload 24 rfl dX10_isLawful_22 3 rfl ?_
        obtain ⟨hg24, hf⟩ := xg_s hf
        refine xV_laload 25 rfl dX10_isLawful_24 rfl (xin_ok hg24) rfl ?_
        refine xV_lconst (v := 0) 26 rfl dX10_isLawful_25 (by decide) ?_
        refine xV_lcmp 27 rfl dX10_isLawful_26 ?_
        refine xV_if_lt (tgt := 34) 30 rfl dX10_isLawful_27 (by decide) (fun h27 => ?_) (fun h27 => ?_)
        · have hf := xif_t hf h27
          refine xV_iconst 35 rfl dX10_isLawful_34 xk_i0 ?_
          refine xV_sub [0, 1, 3] rfl ?_
          exact T10_isLawful_b35 hX (fun {_ _ _} hq => ih hq) hf
        · have hf := xif_f hf h27
          refine xV_iconst 31 rfl dX10_isLawful_30 xk_i1 ?_
          refine xV_goto (tgt := 35) dX10_isLawful_31 (by decide) ?_
          refine xV_sub [0, 1, 3] rfl ?_
          exact T10_isLawful_b35 hX (fun {_ _ _} hq => ih hq) hf
def F10_isLawful (z : Nat) (x1 : Int64) (c_game : (Nat → Int32)) (c_rows : Int32) (c_columns : Int32) (c_share : (Nat → Int64)) : Option (Int32) :=
  F10_isLawful_b5 z z x1 (1 : Int32) (0 : Int32) c_game c_rows c_columns c_share
theorem T10_isLawful {X : xX} {z : Nat} {x1 : Int64} {c_game : (Nat → Int32)} {c_rows : Int32} {c_columns : Int32} {c_share : (Nat → Int64)} {c_thrown : Int32} {c_told : (Nat → Int32)} {c_read : (Nat → Int32)} {c_many : (Nat → Int32)} {c_eights : (Nat → Int32)} {c_gains : (Nat → Int32)} {c_notes : (Nat → Int32)} {c_seen : (Nat → Int32)} {c_turns : (Nat → Int32)} {c_drawn : (Nat → Int32)} {c_state : Int32} {c_tape : (Nat → Int32)} {c_taped : Int32} {c_size : Int32} {c_from : Int32} {c_next : Int32} {c_token : Int32} {c_value : Int32} {c_fault : Int32} {c_number : Int32} {c_fives : (Nat → Int32)} {c_isLeft : (Nat → Int32)} {c_wentTimes : Int32} {c_goes : (Nat → Int32)} {c_isLeftLaid : Int32} {c_isFound : Int32} {c_bestValue : Int64} {c_bestBelow : Int64} {c_bestShare : (Nat → Int64)} {c_matrix : (Nat → Int64)} {c_system : (Nat → Int64)} {c_shares : (Nat → Int32)} {c_allShares : Int32} {v : Int32} (hX : xIs (j10_isLawful) X ((some .boolean)) (some (.int v)) (hM c_thrown c_told c_read c_many c_eights c_gains c_notes c_seen c_turns c_drawn c_state c_tape c_taped c_size c_from c_next c_token c_value c_fault c_number c_fives c_isLeft c_wentTimes c_goes c_isLeftLaid c_game c_rows c_columns c_isFound c_bestValue c_bestBelow c_bestShare c_share c_matrix c_system c_shares c_allShares)) (hf : F10_isLawful z x1 c_game c_rows c_columns c_share = some v) : xV (j10_isLawful) X 0 0 (hM c_thrown c_told c_read c_many c_eights c_gains c_notes c_seen c_turns c_drawn c_state c_tape c_taped c_size c_from c_next c_token c_value c_fault c_number c_fives c_isLeft c_wentTimes c_goes c_isLeftLaid c_game c_rows c_columns c_isFound c_bestValue c_bestBelow c_bestShare c_share c_matrix c_system c_shares c_allShares) 0 [(0, .ref 0), (1, .long x1)] [] := by
  unfold F10_isLawful at hf
  refine xV_iconst 1 rfl dX10_isLawful_0 xk_i1 ?_
  refine xV_istore_n (L' := [(3, .int (1 : Int32)), (0, .ref 0), (1, .long x1)]) 2 rfl dX10_isLawful_1 rfl (xlt rfl) rfl ?_
  refine xV_iconst 3 rfl dX10_isLawful_2 xk_i0 ?_
  refine xV_istore (L' := [(4, .int (0 : Int32)), (3, .int (1 : Int32)), (0, .ref 0), (1, .long x1)]) 5 rfl dX10_isLawful_3 (xlt rfl) rfl ?_
  refine xV_sub [2, 3, 1, 0] rfl ?_
  exact T10_isLawful_b5 hX _ hf
theorem C10_isLawful (l : Launch) {z : Nat} {x1 : Int64} {c_game : (Nat → Int32)} {c_rows : Int32} {c_columns : Int32} {c_share : (Nat → Int64)} {c_thrown : Int32} {c_told : (Nat → Int32)} {c_read : (Nat → Int32)} {c_many : (Nat → Int32)} {c_eights : (Nat → Int32)} {c_gains : (Nat → Int32)} {c_notes : (Nat → Int32)} {c_seen : (Nat → Int32)} {c_turns : (Nat → Int32)} {c_drawn : (Nat → Int32)} {c_state : Int32} {c_tape : (Nat → Int32)} {c_taped : Int32} {c_size : Int32} {c_from : Int32} {c_next : Int32} {c_token : Int32} {c_value : Int32} {c_fault : Int32} {c_number : Int32} {c_fives : (Nat → Int32)} {c_isLeft : (Nat → Int32)} {c_wentTimes : Int32} {c_goes : (Nat → Int32)} {c_isLeftLaid : Int32} {c_isFound : Int32} {c_bestValue : Int64} {c_bestBelow : Int64} {c_bestShare : (Nat → Int64)} {c_matrix : (Nat → Int64)} {c_system : (Nat → Int64)} {c_shares : (Nat → Int32)} {c_allShares : Int32} {v : Int32} (hf : F10_isLawful z x1 c_game c_rows c_columns c_share = some v) : xCt l yX10_isLawful ((some .boolean)) j10_isLawful [.ref 0, .long x1] (hM c_thrown c_told c_read c_many c_eights c_gains c_notes c_seen c_turns c_drawn c_state c_tape c_taped c_size c_from c_next c_token c_value c_fault c_number c_fives c_isLeft c_wentTimes c_goes c_isLeftLaid c_game c_rows c_columns c_isFound c_bestValue c_bestBelow c_bestShare c_share c_matrix c_system c_shares c_allShares) (some (.int v)) (hM c_thrown c_told c_read c_many c_eights c_gains c_notes c_seen c_turns c_drawn c_state c_tape c_taped c_size c_from c_next c_token c_value c_fault c_number c_fives c_isLeft c_wentTimes c_goes c_isLeftLaid c_game c_rows c_columns c_isFound c_bestValue c_bestBelow c_bestShare c_share c_matrix c_system c_shares c_allShares) := xCt_of (by decide) rfl (Nat.le_of_ble_eq_true rfl) (fun _ hX => T10_isLawful hX hf)
theorem m10_isLawful : xMd yX10_isLawful RX10 ((some .boolean)) j10_isLawful 1 := ⟨List.mem_of_getElem? (i := 969) (by decide +kernel), List.mem_of_getElem? (i := 5) (by decide +kernel), rfl, by decide +kernel⟩
theorem v10_isLawful : xMv yX10_isLawful RX10 := ⟨List.mem_of_getElem? (i := 967) (by decide +kernel), List.mem_of_getElem? (i := 968) (by decide +kernel)⟩
theorem f10_292 : xFl RX10 292 10 28 := ⟨_, rfl, by decide, List.mem_of_getElem? (i := 943) (by decide +kernel)⟩
theorem f10_299 : xFl RX10 299 10 30 := ⟨_, rfl, by decide, List.mem_of_getElem? (i := 924) (by decide +kernel)⟩
theorem f10_295 : xFl RX10 295 10 29 := ⟨_, rfl, by decide, List.mem_of_getElem? (i := 923) (by decide +kernel)⟩
theorem f10_63 : xFl RX10 63 10 31 := ⟨_, rfl, by decide, List.mem_of_getElem? (i := 139) (by decide +kernel)⟩
theorem dX10_isBetter_0 : decode cX10_isBetter 0 = .ok (.aload_n 0, 1) := by decide +kernel
theorem dX10_isBetter_1 : decode cX10_isBetter 1 = .ok (.getfield 292, 3) := by decide +kernel
theorem dX10_isBetter_4 : decode cX10_isBetter 4 = .ok (.ifCond .eq 19, 3) := by decide +kernel
theorem dX10_isBetter_7 : decode cX10_isBetter 7 = .ok (.lload_n 1, 1) := by decide +kernel
theorem dX10_isBetter_8 : decode cX10_isBetter 8 = .ok (.aload_n 0, 1) := by decide +kernel
theorem dX10_isBetter_9 : decode cX10_isBetter 9 = .ok (.getfield 299, 3) := by decide +kernel
theorem dX10_isBetter_12 : decode cX10_isBetter 12 = .ok (.lmul, 1) := by decide +kernel
theorem dX10_isBetter_13 : decode cX10_isBetter 13 = .ok (.aload_n 0, 1) := by decide +kernel
theorem dX10_isBetter_14 : decode cX10_isBetter 14 = .ok (.getfield 295, 3) := by decide +kernel
theorem dX10_isBetter_17 : decode cX10_isBetter 17 = .ok (.lload_n 3, 1) := by decide +kernel
theorem dX10_isBetter_18 : decode cX10_isBetter 18 = .ok (.lmul, 1) := by decide +kernel
theorem dX10_isBetter_19 : decode cX10_isBetter 19 = .ok (.lcmp, 1) := by decide +kernel
theorem dX10_isBetter_20 : decode cX10_isBetter 20 = .ok (.ifCond .eq 32, 3) := by decide +kernel
theorem dX10_isBetter_23 : decode cX10_isBetter 23 = .ok (.aload_n 0, 1) := by decide +kernel
theorem dX10_isBetter_24 : decode cX10_isBetter 24 = .ok (.getfield 292, 3) := by decide +kernel
theorem dX10_isBetter_27 : decode cX10_isBetter 27 = .ok (.ifCond .eq 19, 3) := by decide +kernel
theorem dX10_isBetter_30 : decode cX10_isBetter 30 = .ok (.lload_n 1, 1) := by decide +kernel
theorem dX10_isBetter_31 : decode cX10_isBetter 31 = .ok (.aload_n 0, 1) := by decide +kernel
theorem dX10_isBetter_32 : decode cX10_isBetter 32 = .ok (.getfield 299, 3) := by decide +kernel
theorem dX10_isBetter_35 : decode cX10_isBetter 35 = .ok (.lmul, 1) := by decide +kernel
theorem dX10_isBetter_36 : decode cX10_isBetter 36 = .ok (.aload_n 0, 1) := by decide +kernel
theorem dX10_isBetter_37 : decode cX10_isBetter 37 = .ok (.getfield 295, 3) := by decide +kernel
theorem dX10_isBetter_40 : decode cX10_isBetter 40 = .ok (.lload_n 3, 1) := by decide +kernel
theorem dX10_isBetter_41 : decode cX10_isBetter 41 = .ok (.lmul, 1) := by decide +kernel
theorem dX10_isBetter_42 : decode cX10_isBetter 42 = .ok (.lcmp, 1) := by decide +kernel
theorem dX10_isBetter_43 : decode cX10_isBetter 43 = .ok (.ifCond .le 7, 3) := by decide +kernel
theorem dX10_isBetter_46 : decode cX10_isBetter 46 = .ok (.iconst 1, 1) := by decide +kernel
theorem dX10_isBetter_47 : decode cX10_isBetter 47 = .ok (.goto 4, 3) := by decide +kernel
theorem dX10_isBetter_50 : decode cX10_isBetter 50 = .ok (.iconst 0, 1) := by decide +kernel
theorem dX10_isBetter_51 : decode cX10_isBetter 51 = .ok (.ireturn, 1) := by decide +kernel
theorem dX10_isBetter_52 : decode cX10_isBetter 52 = .ok (.iconst 0, 1) := by decide +kernel
theorem dX10_isBetter_53 : decode cX10_isBetter 53 = .ok (.istore 5, 2) := by decide +kernel
theorem dX10_isBetter_55 : decode cX10_isBetter 55 = .ok (.iload 5, 2) := by decide +kernel
theorem dX10_isBetter_57 : decode cX10_isBetter 57 = .ok (.aload_n 0, 1) := by decide +kernel
theorem dX10_isBetter_58 : decode cX10_isBetter 58 = .ok (.getfield 253, 3) := by decide +kernel
theorem dX10_isBetter_61 : decode cX10_isBetter 61 = .ok (.if_icmp .ge 65, 3) := by decide +kernel
theorem dX10_isBetter_64 : decode cX10_isBetter 64 = .ok (.aload_n 0, 1) := by decide +kernel
theorem dX10_isBetter_65 : decode cX10_isBetter 65 = .ok (.getfield 67, 3) := by decide +kernel
theorem dX10_isBetter_68 : decode cX10_isBetter 68 = .ok (.iload 5, 2) := by decide +kernel
theorem dX10_isBetter_70 : decode cX10_isBetter 70 = .ok (.laload, 1) := by decide +kernel
theorem dX10_isBetter_71 : decode cX10_isBetter 71 = .ok (.aload_n 0, 1) := by decide +kernel
theorem dX10_isBetter_72 : decode cX10_isBetter 72 = .ok (.getfield 299, 3) := by decide +kernel
theorem dX10_isBetter_75 : decode cX10_isBetter 75 = .ok (.lmul, 1) := by decide +kernel
theorem dX10_isBetter_76 : decode cX10_isBetter 76 = .ok (.aload_n 0, 1) := by decide +kernel
theorem dX10_isBetter_77 : decode cX10_isBetter 77 = .ok (.getfield 63, 3) := by decide +kernel
theorem dX10_isBetter_80 : decode cX10_isBetter 80 = .ok (.iload 5, 2) := by decide +kernel
theorem dX10_isBetter_82 : decode cX10_isBetter 82 = .ok (.laload, 1) := by decide +kernel
theorem dX10_isBetter_83 : decode cX10_isBetter 83 = .ok (.lload_n 3, 1) := by decide +kernel
theorem dX10_isBetter_84 : decode cX10_isBetter 84 = .ok (.lmul, 1) := by decide +kernel
theorem dX10_isBetter_85 : decode cX10_isBetter 85 = .ok (.lcmp, 1) := by decide +kernel
theorem dX10_isBetter_86 : decode cX10_isBetter 86 = .ok (.ifCond .eq 34, 3) := by decide +kernel
theorem dX10_isBetter_89 : decode cX10_isBetter 89 = .ok (.aload_n 0, 1) := by decide +kernel
theorem dX10_isBetter_90 : decode cX10_isBetter 90 = .ok (.getfield 67, 3) := by decide +kernel
theorem dX10_isBetter_93 : decode cX10_isBetter 93 = .ok (.iload 5, 2) := by decide +kernel
theorem dX10_isBetter_95 : decode cX10_isBetter 95 = .ok (.laload, 1) := by decide +kernel
theorem dX10_isBetter_96 : decode cX10_isBetter 96 = .ok (.aload_n 0, 1) := by decide +kernel
theorem dX10_isBetter_97 : decode cX10_isBetter 97 = .ok (.getfield 299, 3) := by decide +kernel
theorem dX10_isBetter_100 : decode cX10_isBetter 100 = .ok (.lmul, 1) := by decide +kernel
theorem dX10_isBetter_101 : decode cX10_isBetter 101 = .ok (.aload_n 0, 1) := by decide +kernel
theorem dX10_isBetter_102 : decode cX10_isBetter 102 = .ok (.getfield 63, 3) := by decide +kernel
theorem dX10_isBetter_105 : decode cX10_isBetter 105 = .ok (.iload 5, 2) := by decide +kernel
theorem dX10_isBetter_107 : decode cX10_isBetter 107 = .ok (.laload, 1) := by decide +kernel
theorem dX10_isBetter_108 : decode cX10_isBetter 108 = .ok (.lload_n 3, 1) := by decide +kernel
theorem dX10_isBetter_109 : decode cX10_isBetter 109 = .ok (.lmul, 1) := by decide +kernel
theorem dX10_isBetter_110 : decode cX10_isBetter 110 = .ok (.lcmp, 1) := by decide +kernel
theorem dX10_isBetter_111 : decode cX10_isBetter 111 = .ok (.ifCond .le 7, 3) := by decide +kernel
theorem dX10_isBetter_114 : decode cX10_isBetter 114 = .ok (.iconst 1, 1) := by decide +kernel
theorem dX10_isBetter_115 : decode cX10_isBetter 115 = .ok (.goto 4, 3) := by decide +kernel
theorem dX10_isBetter_118 : decode cX10_isBetter 118 = .ok (.iconst 0, 1) := by decide +kernel
theorem dX10_isBetter_119 : decode cX10_isBetter 119 = .ok (.ireturn, 1) := by decide +kernel
theorem dX10_isBetter_120 : decode cX10_isBetter 120 = .ok (.iinc 5 1, 3) := by decide +kernel
theorem dX10_isBetter_123 : decode cX10_isBetter 123 = .ok (.goto (-68), 3) := by decide +kernel
theorem dX10_isBetter_126 : decode cX10_isBetter 126 = .ok (.iconst 0, 1) := by decide +kernel
theorem dX10_isBetter_127 : decode cX10_isBetter 127 = .ok (.ireturn, 1) := by decide +kernel
abbrev j10_isBetter : xJ := (cX10_isBetter, 6, RX10, 1, 0, 0)
def F10_isBetter_b23 (z : Nat) (x1 : Int64) (x3 : Int64) (c_rows : Int32) (c_isFound : Int32) (c_bestValue : Int64) (c_bestBelow : Int64) (c_bestShare : (Nat → Int64)) (c_share : (Nat → Int64)) : Option (Int32) :=
  if c_isFound = 0 then (some ((1 : Int32))) else (if (lg_cmp (x1 * c_bestBelow) (c_bestValue * x3)) ≤ 0 then (some ((0 : Int32))) else (some ((1 : Int32))))
theorem T10_isBetter_b23 {X : xX} {c_thrown : Int32} {c_told : (Nat → Int32)} {c_read : (Nat → Int32)} {c_many : (Nat → Int32)} {c_eights : (Nat → Int32)} {c_gains : (Nat → Int32)} {c_notes : (Nat → Int32)} {c_seen : (Nat → Int32)} {c_turns : (Nat → Int32)} {c_drawn : (Nat → Int32)} {c_state : Int32} {c_tape : (Nat → Int32)} {c_taped : Int32} {c_size : Int32} {c_from : Int32} {c_next : Int32} {c_token : Int32} {c_value : Int32} {c_fault : Int32} {c_number : Int32} {c_fives : (Nat → Int32)} {c_isLeft : (Nat → Int32)} {c_wentTimes : Int32} {c_goes : (Nat → Int32)} {c_isLeftLaid : Int32} {c_game : (Nat → Int32)} {c_columns : Int32} {c_matrix : (Nat → Int64)} {c_system : (Nat → Int64)} {c_shares : (Nat → Int32)} {c_allShares : Int32} {x1 : Int64} {x3 : Int64} {c_rows : Int32} {c_isFound : Int32} {c_bestValue : Int64} {c_bestBelow : Int64} {c_bestShare : (Nat → Int64)} {c_share : (Nat → Int64)} {z : Nat} {v : Int32} (hX : xIs (j10_isBetter) X ((some .boolean)) (some (.int v)) (hM c_thrown c_told c_read c_many c_eights c_gains c_notes c_seen c_turns c_drawn c_state c_tape c_taped c_size c_from c_next c_token c_value c_fault c_number c_fives c_isLeft c_wentTimes c_goes c_isLeftLaid c_game c_rows c_columns c_isFound c_bestValue c_bestBelow c_bestShare c_share c_matrix c_system c_shares c_allShares)) (hf : F10_isBetter_b23 z x1 x3 c_rows c_isFound c_bestValue c_bestBelow c_bestShare c_share = some v) : xV (j10_isBetter) X 0 0 (hM c_thrown c_told c_read c_many c_eights c_gains c_notes c_seen c_turns c_drawn c_state c_tape c_taped c_size c_from c_next c_token c_value c_fault c_number c_fives c_isLeft c_wentTimes c_goes c_isLeftLaid c_game c_rows c_columns c_isFound c_bestValue c_bestBelow c_bestShare c_share c_matrix c_system c_shares c_allShares) 23 [(0, .ref 0), (1, .long x1), (3, .long x3)] [] := by
  unfold F10_isBetter_b23 at hf
  refine xV_aload_n 24 rfl dX10_isBetter_23 rfl 0 rfl ?_
  refine xV_get (v := .int c_isFound) 27 rfl dX10_isBetter_24 f10_292 rfl rfl ?_
  refine xV_if_eq (tgt := 46) 30 rfl dX10_isBetter_27 (by decide) (fun h27 => ?_) (fun h27 => ?_)
  · have hf := xif_t hf h27
    refine xV_iconst 47 rfl dX10_isBetter_46 xk_i1 ?_
    refine xV_goto (tgt := 51) dX10_isBetter_47 (by decide) ?_
    obtain rfl := Option.some.inj hf
    exact xV_iret hX dX10_isBetter_51 (xbo_ok rfl) (Nat.zero_le _) (Nat.zero_le _)
  · have hf := xif_f hf h27
    refine xV_lload_n 31 rfl dX10_isBetter_30 rfl 1 rfl ?_
    refine xV_aload_n 32 rfl dX10_isBetter_31 rfl 0 rfl ?_
    refine xV_get (v := .long c_bestBelow) 35 rfl dX10_isBetter_32 f10_299 rfl rfl ?_
    refine xV_lmul 36 rfl dX10_isBetter_35 ?_
    refine xV_aload_n 37 rfl dX10_isBetter_36 rfl 0 rfl ?_
    refine xV_get (v := .long c_bestValue) 40 rfl dX10_isBetter_37 f10_295 rfl rfl ?_
    refine xV_lload_n 41 rfl dX10_isBetter_40 rfl 2 rfl ?_
    refine xV_lmul 42 rfl dX10_isBetter_41 ?_
    refine xV_lcmp 43 rfl dX10_isBetter_42 ?_
    refine xV_if_le (tgt := 50) 46 rfl dX10_isBetter_43 (by decide) (fun h43 => ?_) (fun h43 => ?_)
    · have hf := xif_t hf h43
      refine xV_iconst 51 rfl dX10_isBetter_50 xk_i0 ?_
      obtain rfl := Option.some.inj hf
      exact xV_iret hX dX10_isBetter_51 (xbo_ok rfl) (Nat.zero_le _) (Nat.zero_le _)
    · have hf := xif_f hf h43
      refine xV_iconst 47 rfl dX10_isBetter_46 xk_i1 ?_
      refine xV_goto (tgt := 51) dX10_isBetter_47 (by decide) ?_
      obtain rfl := Option.some.inj hf
      exact xV_iret hX dX10_isBetter_51 (xbo_ok rfl) (Nat.zero_le _) (Nat.zero_le _)
def F10_isBetter_b89 (z : Nat) (x3 : Int64) (x5 : Int32) (c_rows : Int32) (c_isFound : Int32) (c_bestValue : Int64) (c_bestBelow : Int64) (c_bestShare : (Nat → Int64)) (c_share : (Nat → Int64)) : Option (Int32) :=
  xg (xin x5 8) (xg (xin x5 8) (if (lg_cmp ((c_share (xn x5)) * c_bestBelow) ((c_bestShare (xn x5)) * x3)) ≤ 0 then (some ((0 : Int32))) else (some ((1 : Int32)))))
theorem T10_isBetter_b89 {X : xX} {c_thrown : Int32} {c_told : (Nat → Int32)} {c_read : (Nat → Int32)} {c_many : (Nat → Int32)} {c_eights : (Nat → Int32)} {c_gains : (Nat → Int32)} {c_notes : (Nat → Int32)} {c_seen : (Nat → Int32)} {c_turns : (Nat → Int32)} {c_drawn : (Nat → Int32)} {c_state : Int32} {c_tape : (Nat → Int32)} {c_taped : Int32} {c_size : Int32} {c_from : Int32} {c_next : Int32} {c_token : Int32} {c_value : Int32} {c_fault : Int32} {c_number : Int32} {c_fives : (Nat → Int32)} {c_isLeft : (Nat → Int32)} {c_wentTimes : Int32} {c_goes : (Nat → Int32)} {c_isLeftLaid : Int32} {c_game : (Nat → Int32)} {c_columns : Int32} {c_matrix : (Nat → Int64)} {c_system : (Nat → Int64)} {c_shares : (Nat → Int32)} {c_allShares : Int32} {x3 : Int64} {x5 : Int32} {c_rows : Int32} {c_isFound : Int32} {c_bestValue : Int64} {c_bestBelow : Int64} {c_bestShare : (Nat → Int64)} {c_share : (Nat → Int64)} {z : Nat} {v : Int32} (hX : xIs (j10_isBetter) X ((some .boolean)) (some (.int v)) (hM c_thrown c_told c_read c_many c_eights c_gains c_notes c_seen c_turns c_drawn c_state c_tape c_taped c_size c_from c_next c_token c_value c_fault c_number c_fives c_isLeft c_wentTimes c_goes c_isLeftLaid c_game c_rows c_columns c_isFound c_bestValue c_bestBelow c_bestShare c_share c_matrix c_system c_shares c_allShares)) (hf : F10_isBetter_b89 z x3 x5 c_rows c_isFound c_bestValue c_bestBelow c_bestShare c_share = some v) : xV (j10_isBetter) X 0 0 (hM c_thrown c_told c_read c_many c_eights c_gains c_notes c_seen c_turns c_drawn c_state c_tape c_taped c_size c_from c_next c_token c_value c_fault c_number c_fives c_isLeft c_wentTimes c_goes c_isLeftLaid c_game c_rows c_columns c_isFound c_bestValue c_bestBelow c_bestShare c_share c_matrix c_system c_shares c_allShares) 89 [(0, .ref 0), (3, .long x3), (5, .int x5)] [] := by
  unfold F10_isBetter_b89 at hf
  refine xV_aload_n 90 rfl dX10_isBetter_89 rfl 0 rfl ?_
  refine xV_get (v := .ref 16) 93 rfl dX10_isBetter_90 f10_67 rfl rfl ?_
  refine xV_iload 95 rfl dX10_isBetter_93 2 rfl ?_
  obtain ⟨hg95, hf⟩ := xg_s hf
  refine xV_laload 96 rfl dX10_isBetter_95 rfl (xin_ok hg95) rfl ?_
  refine xV_aload_n 97 rfl dX10_isBetter_96 rfl 0 rfl ?_
  refine xV_get (v := .long c_bestBelow) 100 rfl dX10_isBetter_97 f10_299 rfl rfl ?_
  refine xV_lmul 101 rfl dX10_isBetter_100 ?_
  refine xV_aload_n 102 rfl dX10_isBetter_101 rfl 0 rfl ?_
  refine xV_get (v := .ref 15) 105 rfl dX10_isBetter_102 f10_63 rfl rfl ?_
  refine xV_iload 107 rfl dX10_isBetter_105 2 rfl ?_
  obtain ⟨hg107, hf⟩ := xg_s hf
  refine xV_laload 108 rfl dX10_isBetter_107 rfl (xin_ok hg107) rfl ?_
  refine xV_lload_n 109 rfl dX10_isBetter_108 rfl 1 rfl ?_
  refine xV_lmul 110 rfl dX10_isBetter_109 ?_
  refine xV_lcmp 111 rfl dX10_isBetter_110 ?_
  refine xV_if_le (tgt := 118) 114 rfl dX10_isBetter_111 (by decide) (fun h111 => ?_) (fun h111 => ?_)
  · have hf := xif_t hf h111
    refine xV_iconst 119 rfl dX10_isBetter_118 xk_i0 ?_
    obtain rfl := Option.some.inj hf
    exact xV_iret hX dX10_isBetter_119 (xbo_ok rfl) (Nat.zero_le _) (Nat.zero_le _)
  · have hf := xif_f hf h111
    refine xV_iconst 115 rfl dX10_isBetter_114 xk_i1 ?_
    refine xV_goto (tgt := 119) dX10_isBetter_115 (by decide) ?_
    obtain rfl := Option.some.inj hf
    exact xV_iret hX dX10_isBetter_119 (xbo_ok rfl) (Nat.zero_le _) (Nat.zero_le _)
def F10_isBetter_b55 (z : Nat) (w : Nat) (x3 : Int64) (x5 : Int32) (c_rows : Int32) (c_isFound : Int32) (c_bestValue : Int64) (c_bestBelow : Int64) (c_bestShare : (Nat → Int64)) (c_share : (Nat → Int64)) : Option (Int32) := match w with
  | 0 => none
  | w + 1 => if c_rows ≤ x5 then (some ((0 : Int32))) else (xg (xin x5 8) (xg (xin x5 8) (if (lg_cmp ((c_share (xn x5)) * c_bestBelow) ((c_bestShare (xn x5)) * x3)) = 0 then (F10_isBetter_b55 z w x3 (x5 + (1 : Int32)) c_rows c_isFound c_bestValue c_bestBelow c_bestShare c_share) else (F10_isBetter_b89 z x3 x5 c_rows c_isFound c_bestValue c_bestBelow c_bestShare c_share))))
theorem T10_isBetter_b55 {X : xX} {c_thrown : Int32} {c_told : (Nat → Int32)} {c_read : (Nat → Int32)} {c_many : (Nat → Int32)} {c_eights : (Nat → Int32)} {c_gains : (Nat → Int32)} {c_notes : (Nat → Int32)} {c_seen : (Nat → Int32)} {c_turns : (Nat → Int32)} {c_drawn : (Nat → Int32)} {c_state : Int32} {c_tape : (Nat → Int32)} {c_taped : Int32} {c_size : Int32} {c_from : Int32} {c_next : Int32} {c_token : Int32} {c_value : Int32} {c_fault : Int32} {c_number : Int32} {c_fives : (Nat → Int32)} {c_isLeft : (Nat → Int32)} {c_wentTimes : Int32} {c_goes : (Nat → Int32)} {c_isLeftLaid : Int32} {c_game : (Nat → Int32)} {c_rows : Int32} {c_columns : Int32} {c_isFound : Int32} {c_bestValue : Int64} {c_bestBelow : Int64} {c_bestShare : (Nat → Int64)} {c_share : (Nat → Int64)} {c_matrix : (Nat → Int64)} {c_system : (Nat → Int64)} {c_shares : (Nat → Int32)} {c_allShares : Int32} {z : Nat} {v : Int32} (hX : xIs (j10_isBetter) X ((some .boolean)) (some (.int v)) (hM c_thrown c_told c_read c_many c_eights c_gains c_notes c_seen c_turns c_drawn c_state c_tape c_taped c_size c_from c_next c_token c_value c_fault c_number c_fives c_isLeft c_wentTimes c_goes c_isLeftLaid c_game c_rows c_columns c_isFound c_bestValue c_bestBelow c_bestShare c_share c_matrix c_system c_shares c_allShares)) : ∀ (w : Nat) {x3 : Int64} {x5 : Int32}, F10_isBetter_b55 z w x3 x5 c_rows c_isFound c_bestValue c_bestBelow c_bestShare c_share = some v → xV (j10_isBetter) X 0 0 (hM c_thrown c_told c_read c_many c_eights c_gains c_notes c_seen c_turns c_drawn c_state c_tape c_taped c_size c_from c_next c_token c_value c_fault c_number c_fives c_isLeft c_wentTimes c_goes c_isLeftLaid c_game c_rows c_columns c_isFound c_bestValue c_bestBelow c_bestShare c_share c_matrix c_system c_shares c_allShares) 55 [(0, .ref 0), (3, .long x3), (5, .int x5)] [] := by
  intro w
  induction w with
  | zero => intro x3 x5 hf; cases hf
  | succ w ih =>
    intro x3 x5 hf
    unfold F10_isBetter_b55 at hf
    refine xV_iload 57 rfl dX10_isBetter_55 2 rfl ?_
    refine xV_aload_n 58 rfl dX10_isBetter_57 rfl 0 rfl ?_
    refine xV_get (v := .int c_rows) 61 rfl dX10_isBetter_58 f10_253 rfl rfl ?_
    refine xV_icmp_ge (tgt := 126) 64 rfl dX10_isBetter_61 (by decide) (fun h61 => ?_) (fun h61 => ?_)
    · have hf := xif_t hf h61
      refine xV_iconst 127 rfl dX10_isBetter_126 xk_i0 ?_
      obtain rfl := Option.some.inj hf
      exact xV_iret hX dX10_isBetter_127 (xbo_ok rfl) (Nat.zero_le _) (Nat.zero_le _)
    · have hf := xif_f hf h61
      refine xV_aload_n 65 rfl dX10_isBetter_64 rfl 0 rfl ?_
      refine xV_get (v := .ref 16) 68 rfl dX10_isBetter_65 f10_67 rfl rfl ?_
      refine xV_iload 70 rfl dX10_isBetter_68 2 rfl ?_
      obtain ⟨hg70, hf⟩ := xg_s hf
      refine xV_laload 71 rfl dX10_isBetter_70 rfl (xin_ok hg70) rfl ?_
      refine xV_aload_n 72 rfl dX10_isBetter_71 rfl 0 rfl ?_
      refine xV_get (v := .long c_bestBelow) 75 rfl dX10_isBetter_72 f10_299 rfl rfl ?_
      refine xV_lmul 76 rfl dX10_isBetter_75 ?_
      refine xV_aload_n 77 rfl dX10_isBetter_76 rfl 0 rfl ?_
      refine xV_get (v := .ref 15) 80 rfl dX10_isBetter_77 f10_63 rfl rfl ?_
      refine xV_iload 82 rfl dX10_isBetter_80 2 rfl ?_
      obtain ⟨hg82, hf⟩ := xg_s hf
      refine xV_laload 83 rfl dX10_isBetter_82 rfl (xin_ok hg82) rfl ?_
      refine xV_lload_n 84 rfl dX10_isBetter_83 rfl 1 rfl ?_
      refine xV_lmul 85 rfl dX10_isBetter_84 ?_
      refine xV_lcmp 86 rfl dX10_isBetter_85 ?_
      refine xV_if_eq (tgt := 120) 89 rfl dX10_isBetter_86 (by decide) (fun h86 => ?_) (fun h86 => ?_)
      · have hf := xif_t hf h86
        refine xV_iinc (L' := [(5, .int (x5 + (1 : Int32))), (0, .ref 0), (3, .long x3)]) 123 rfl dX10_isBetter_120 2 rfl (xk_inc xk_i1) (xlt rfl) rfl ?_
        refine xV_goto (tgt := 55) dX10_isBetter_123 (by decide) ?_
        refine xV_sub [1, 2, 0] rfl ?_
        exact ih hf
      · have hf := xif_f hf h86
        exact T10_isBetter_b89 hX hf
def F10_isBetter (z : Nat) (x1 : Int64) (x3 : Int64) (c_rows : Int32) (c_isFound : Int32) (c_bestValue : Int64) (c_bestBelow : Int64) (c_bestShare : (Nat → Int64)) (c_share : (Nat → Int64)) : Option (Int32) :=
  if c_isFound = 0 then (F10_isBetter_b23 z x1 x3 c_rows c_isFound c_bestValue c_bestBelow c_bestShare c_share) else (if (lg_cmp (x1 * c_bestBelow) (c_bestValue * x3)) = 0 then (F10_isBetter_b55 z z x3 (0 : Int32) c_rows c_isFound c_bestValue c_bestBelow c_bestShare c_share) else (F10_isBetter_b23 z x1 x3 c_rows c_isFound c_bestValue c_bestBelow c_bestShare c_share))
theorem T10_isBetter {X : xX} {z : Nat} {x1 : Int64} {x3 : Int64} {c_rows : Int32} {c_isFound : Int32} {c_bestValue : Int64} {c_bestBelow : Int64} {c_bestShare : (Nat → Int64)} {c_share : (Nat → Int64)} {c_thrown : Int32} {c_told : (Nat → Int32)} {c_read : (Nat → Int32)} {c_many : (Nat → Int32)} {c_eights : (Nat → Int32)} {c_gains : (Nat → Int32)} {c_notes : (Nat → Int32)} {c_seen : (Nat → Int32)} {c_turns : (Nat → Int32)} {c_drawn : (Nat → Int32)} {c_state : Int32} {c_tape : (Nat → Int32)} {c_taped : Int32} {c_size : Int32} {c_from : Int32} {c_next : Int32} {c_token : Int32} {c_value : Int32} {c_fault : Int32} {c_number : Int32} {c_fives : (Nat → Int32)} {c_isLeft : (Nat → Int32)} {c_wentTimes : Int32} {c_goes : (Nat → Int32)} {c_isLeftLaid : Int32} {c_game : (Nat → Int32)} {c_columns : Int32} {c_matrix : (Nat → Int64)} {c_system : (Nat → Int64)} {c_shares : (Nat → Int32)} {c_allShares : Int32} {v : Int32} (hX : xIs (j10_isBetter) X ((some .boolean)) (some (.int v)) (hM c_thrown c_told c_read c_many c_eights c_gains c_notes c_seen c_turns c_drawn c_state c_tape c_taped c_size c_from c_next c_token c_value c_fault c_number c_fives c_isLeft c_wentTimes c_goes c_isLeftLaid c_game c_rows c_columns c_isFound c_bestValue c_bestBelow c_bestShare c_share c_matrix c_system c_shares c_allShares)) (hf : F10_isBetter z x1 x3 c_rows c_isFound c_bestValue c_bestBelow c_bestShare c_share = some v) : xV (j10_isBetter) X 0 0 (hM c_thrown c_told c_read c_many c_eights c_gains c_notes c_seen c_turns c_drawn c_state c_tape c_taped c_size c_from c_next c_token c_value c_fault c_number c_fives c_isLeft c_wentTimes c_goes c_isLeftLaid c_game c_rows c_columns c_isFound c_bestValue c_bestBelow c_bestShare c_share c_matrix c_system c_shares c_allShares) 0 [(0, .ref 0), (1, .long x1), (3, .long x3)] [] := by
  unfold F10_isBetter at hf
  refine xV_aload_n 1 rfl dX10_isBetter_0 rfl 0 rfl ?_
  refine xV_get (v := .int c_isFound) 4 rfl dX10_isBetter_1 f10_292 rfl rfl ?_
  refine xV_if_eq (tgt := 23) 7 rfl dX10_isBetter_4 (by decide) (fun h4 => ?_) (fun h4 => ?_)
  · have hf := xif_t hf h4
    exact T10_isBetter_b23 hX hf
  · have hf := xif_f hf h4
    refine xV_lload_n 8 rfl dX10_isBetter_7 rfl 1 rfl ?_
    refine xV_aload_n 9 rfl dX10_isBetter_8 rfl 0 rfl ?_
    refine xV_get (v := .long c_bestBelow) 12 rfl dX10_isBetter_9 f10_299 rfl rfl ?_
    refine xV_lmul 13 rfl dX10_isBetter_12 ?_
    refine xV_aload_n 14 rfl dX10_isBetter_13 rfl 0 rfl ?_
    refine xV_get (v := .long c_bestValue) 17 rfl dX10_isBetter_14 f10_295 rfl rfl ?_
    refine xV_lload_n 18 rfl dX10_isBetter_17 rfl 2 rfl ?_
    refine xV_lmul 19 rfl dX10_isBetter_18 ?_
    refine xV_lcmp 20 rfl dX10_isBetter_19 ?_
    refine xV_if_eq (tgt := 52) 23 rfl dX10_isBetter_20 (by decide) (fun h20 => ?_) (fun h20 => ?_)
    · have hf := xif_t hf h20
      refine xV_iconst 53 rfl dX10_isBetter_52 xk_i0 ?_
      refine xV_istore (L' := [(5, .int (0 : Int32)), (0, .ref 0), (1, .long x1), (3, .long x3)]) 55 rfl dX10_isBetter_53 (xlt rfl) rfl ?_
      refine xV_sub [1, 3, 0] rfl ?_
      exact T10_isBetter_b55 hX _ hf
    · have hf := xif_f hf h20
      exact T10_isBetter_b23 hX hf
theorem C10_isBetter (l : Launch) {z : Nat} {x1 : Int64} {x3 : Int64} {c_rows : Int32} {c_isFound : Int32} {c_bestValue : Int64} {c_bestBelow : Int64} {c_bestShare : (Nat → Int64)} {c_share : (Nat → Int64)} {c_thrown : Int32} {c_told : (Nat → Int32)} {c_read : (Nat → Int32)} {c_many : (Nat → Int32)} {c_eights : (Nat → Int32)} {c_gains : (Nat → Int32)} {c_notes : (Nat → Int32)} {c_seen : (Nat → Int32)} {c_turns : (Nat → Int32)} {c_drawn : (Nat → Int32)} {c_state : Int32} {c_tape : (Nat → Int32)} {c_taped : Int32} {c_size : Int32} {c_from : Int32} {c_next : Int32} {c_token : Int32} {c_value : Int32} {c_fault : Int32} {c_number : Int32} {c_fives : (Nat → Int32)} {c_isLeft : (Nat → Int32)} {c_wentTimes : Int32} {c_goes : (Nat → Int32)} {c_isLeftLaid : Int32} {c_game : (Nat → Int32)} {c_columns : Int32} {c_matrix : (Nat → Int64)} {c_system : (Nat → Int64)} {c_shares : (Nat → Int32)} {c_allShares : Int32} {v : Int32} (hf : F10_isBetter z x1 x3 c_rows c_isFound c_bestValue c_bestBelow c_bestShare c_share = some v) : xCt l yX10_isBetter ((some .boolean)) j10_isBetter [.ref 0, .long x1, .long x3] (hM c_thrown c_told c_read c_many c_eights c_gains c_notes c_seen c_turns c_drawn c_state c_tape c_taped c_size c_from c_next c_token c_value c_fault c_number c_fives c_isLeft c_wentTimes c_goes c_isLeftLaid c_game c_rows c_columns c_isFound c_bestValue c_bestBelow c_bestShare c_share c_matrix c_system c_shares c_allShares) (some (.int v)) (hM c_thrown c_told c_read c_many c_eights c_gains c_notes c_seen c_turns c_drawn c_state c_tape c_taped c_size c_from c_next c_token c_value c_fault c_number c_fives c_isLeft c_wentTimes c_goes c_isLeftLaid c_game c_rows c_columns c_isFound c_bestValue c_bestBelow c_bestShare c_share c_matrix c_system c_shares c_allShares) := xCt_of (by decide) rfl (Nat.le_of_ble_eq_true rfl) (fun _ hX => T10_isBetter hX hf)
theorem m10_isBetter : xMd yX10_isBetter RX10 ((some .boolean)) j10_isBetter 2 := ⟨List.mem_of_getElem? (i := 973) (by decide +kernel), List.mem_of_getElem? (i := 5) (by decide +kernel), rfl, by decide +kernel⟩
theorem v10_isBetter : xMv yX10_isBetter RX10 := ⟨List.mem_of_getElem? (i := 971) (by decide +kernel), List.mem_of_getElem? (i := 972) (by decide +kernel)⟩
theorem k10_277 : Cond.methodLink RX10 277 yX10_has ∈ wsL_law0 := List.mem_of_getElem? (i := 951) (by decide +kernel)
theorem k10_280 : Cond.methodLink RX10 280 yX10_with ∈ wsL_law0 := List.mem_of_getElem? (i := 954) (by decide +kernel)
theorem k10_284 : Cond.methodLink RX10 284 yX10_isLawful ∈ wsL_law0 := List.mem_of_getElem? (i := 966) (by decide +kernel)
theorem k10_288 : Cond.methodLink RX10 288 yX10_isBetter ∈ wsL_law0 := List.mem_of_getElem? (i := 970) (by decide +kernel)
theorem nf10_28 : ∀ q : vw_C, vwCl[10]? = some q → (q.2.1 28).2.2.2 = false := fun q e => by cases e; rfl
theorem nf10_29 : ∀ q : vw_C, vwCl[10]? = some q → (q.2.1 29).2.2.2 = false := fun q e => by cases e; rfl
theorem nf10_30 : ∀ q : vw_C, vwCl[10]? = some q → (q.2.1 30).2.2.2 = false := fun q e => by cases e; rfl
theorem dX10_asks_0 : decode cX10_asks 0 = .ok (.iconst 0, 1) := by decide +kernel
theorem dX10_asks_1 : decode cX10_asks 1 = .ok (.istore_n 3, 1) := by decide +kernel
theorem dX10_asks_2 : decode cX10_asks 2 = .ok (.iconst 0, 1) := by decide +kernel
theorem dX10_asks_3 : decode cX10_asks 3 = .ok (.istore 4, 2) := by decide +kernel
theorem dX10_asks_5 : decode cX10_asks 5 = .ok (.iload 4, 2) := by decide +kernel
theorem dX10_asks_7 : decode cX10_asks 7 = .ok (.aload_n 0, 1) := by decide +kernel
theorem dX10_asks_8 : decode cX10_asks 8 = .ok (.getfield 256, 3) := by decide +kernel
theorem dX10_asks_11 : decode cX10_asks 11 = .ok (.if_icmp .ge 95, 3) := by decide +kernel
theorem dX10_asks_14 : decode cX10_asks 14 = .ok (.iload_n 2, 1) := by decide +kernel
theorem dX10_asks_15 : decode cX10_asks 15 = .ok (.iload 4, 2) := by decide +kernel
theorem dX10_asks_17 : decode cX10_asks 17 = .ok (.invokestatic 277, 3) := by decide +kernel
theorem dX10_asks_20 : decode cX10_asks 20 = .ok (.ifCond .eq 80, 3) := by decide +kernel
theorem dX10_asks_23 : decode cX10_asks 23 = .ok (.iconst 0, 1) := by decide +kernel
theorem dX10_asks_24 : decode cX10_asks 24 = .ok (.istore 5, 2) := by decide +kernel
theorem dX10_asks_26 : decode cX10_asks 26 = .ok (.iconst 0, 1) := by decide +kernel
theorem dX10_asks_27 : decode cX10_asks 27 = .ok (.istore 6, 2) := by decide +kernel
theorem dX10_asks_29 : decode cX10_asks 29 = .ok (.iload 6, 2) := by decide +kernel
theorem dX10_asks_31 : decode cX10_asks 31 = .ok (.aload_n 0, 1) := by decide +kernel
theorem dX10_asks_32 : decode cX10_asks 32 = .ok (.getfield 253, 3) := by decide +kernel
theorem dX10_asks_35 : decode cX10_asks 35 = .ok (.if_icmp .ge 47, 3) := by decide +kernel
theorem dX10_asks_38 : decode cX10_asks 38 = .ok (.iload_n 1, 1) := by decide +kernel
theorem dX10_asks_39 : decode cX10_asks 39 = .ok (.iload 6, 2) := by decide +kernel
theorem dX10_asks_41 : decode cX10_asks 41 = .ok (.invokestatic 277, 3) := by decide +kernel
theorem dX10_asks_44 : decode cX10_asks 44 = .ok (.ifCond .eq 32, 3) := by decide +kernel
theorem dX10_asks_47 : decode cX10_asks 47 = .ok (.aload_n 0, 1) := by decide +kernel
theorem dX10_asks_48 : decode cX10_asks 48 = .ok (.getfield 73, 3) := by decide +kernel
theorem dX10_asks_51 : decode cX10_asks 51 = .ok (.bipush 8, 2) := by decide +kernel
theorem dX10_asks_53 : decode cX10_asks 53 = .ok (.iload_n 3, 1) := by decide +kernel
theorem dX10_asks_54 : decode cX10_asks 54 = .ok (.imul, 1) := by decide +kernel
theorem dX10_asks_55 : decode cX10_asks 55 = .ok (.iload 5, 2) := by decide +kernel
theorem dX10_asks_57 : decode cX10_asks 57 = .ok (.iadd, 1) := by decide +kernel
theorem dX10_asks_58 : decode cX10_asks 58 = .ok (.aload_n 0, 1) := by decide +kernel
theorem dX10_asks_59 : decode cX10_asks 59 = .ok (.getfield 60, 3) := by decide +kernel
theorem dX10_asks_62 : decode cX10_asks 62 = .ok (.bipush 8, 2) := by decide +kernel
theorem dX10_asks_64 : decode cX10_asks 64 = .ok (.iload 6, 2) := by decide +kernel
theorem dX10_asks_66 : decode cX10_asks 66 = .ok (.imul, 1) := by decide +kernel
theorem dX10_asks_67 : decode cX10_asks 67 = .ok (.iload 4, 2) := by decide +kernel
theorem dX10_asks_69 : decode cX10_asks 69 = .ok (.iadd, 1) := by decide +kernel
theorem dX10_asks_70 : decode cX10_asks 70 = .ok (.iaload, 1) := by decide +kernel
theorem dX10_asks_71 : decode cX10_asks 71 = .ok (.i2l, 1) := by decide +kernel
theorem dX10_asks_72 : decode cX10_asks 72 = .ok (.lastore, 1) := by decide +kernel
theorem dX10_asks_73 : decode cX10_asks 73 = .ok (.iinc 5 1, 3) := by decide +kernel
theorem dX10_asks_76 : decode cX10_asks 76 = .ok (.iinc 6 1, 3) := by decide +kernel
theorem dX10_asks_79 : decode cX10_asks 79 = .ok (.goto (-50), 3) := by decide +kernel
theorem dX10_asks_82 : decode cX10_asks 82 = .ok (.aload_n 0, 1) := by decide +kernel
theorem dX10_asks_83 : decode cX10_asks 83 = .ok (.getfield 73, 3) := by decide +kernel
theorem dX10_asks_86 : decode cX10_asks 86 = .ok (.bipush 8, 2) := by decide +kernel
theorem dX10_asks_88 : decode cX10_asks 88 = .ok (.iload_n 3, 1) := by decide +kernel
theorem dX10_asks_89 : decode cX10_asks 89 = .ok (.imul, 1) := by decide +kernel
theorem dX10_asks_90 : decode cX10_asks 90 = .ok (.iload 5, 2) := by decide +kernel
theorem dX10_asks_92 : decode cX10_asks 92 = .ok (.iadd, 1) := by decide +kernel
theorem dX10_asks_93 : decode cX10_asks 93 = .ok (.ldc2_w 231, 3) := by decide +kernel
theorem dX10_asks_96 : decode cX10_asks 96 = .ok (.lastore, 1) := by decide +kernel
theorem dX10_asks_97 : decode cX10_asks 97 = .ok (.iinc 3 1, 3) := by decide +kernel
theorem dX10_asks_100 : decode cX10_asks 100 = .ok (.iinc 4 1, 3) := by decide +kernel
theorem dX10_asks_103 : decode cX10_asks 103 = .ok (.goto (-98), 3) := by decide +kernel
theorem dX10_asks_106 : decode cX10_asks 106 = .ok (.iconst 0, 1) := by decide +kernel
theorem dX10_asks_107 : decode cX10_asks 107 = .ok (.istore 4, 2) := by decide +kernel
theorem dX10_asks_109 : decode cX10_asks 109 = .ok (.iload 4, 2) := by decide +kernel
theorem dX10_asks_111 : decode cX10_asks 111 = .ok (.iload_n 3, 1) := by decide +kernel
theorem dX10_asks_112 : decode cX10_asks 112 = .ok (.if_icmp .gt 32, 3) := by decide +kernel
theorem dX10_asks_115 : decode cX10_asks 115 = .ok (.aload_n 0, 1) := by decide +kernel
theorem dX10_asks_116 : decode cX10_asks 116 = .ok (.getfield 73, 3) := by decide +kernel
theorem dX10_asks_119 : decode cX10_asks 119 = .ok (.bipush 8, 2) := by decide +kernel
theorem dX10_asks_121 : decode cX10_asks 121 = .ok (.iload_n 3, 1) := by decide +kernel
theorem dX10_asks_122 : decode cX10_asks 122 = .ok (.imul, 1) := by decide +kernel
theorem dX10_asks_123 : decode cX10_asks 123 = .ok (.iload 4, 2) := by decide +kernel
theorem dX10_asks_125 : decode cX10_asks 125 = .ok (.iadd, 1) := by decide +kernel
theorem dX10_asks_126 : decode cX10_asks 126 = .ok (.iload 4, 2) := by decide +kernel
theorem dX10_asks_128 : decode cX10_asks 128 = .ok (.iload_n 3, 1) := by decide +kernel
theorem dX10_asks_129 : decode cX10_asks 129 = .ok (.if_icmp .ge 7, 3) := by decide +kernel
theorem dX10_asks_132 : decode cX10_asks 132 = .ok (.lconst 1, 1) := by decide +kernel
theorem dX10_asks_133 : decode cX10_asks 133 = .ok (.goto 4, 3) := by decide +kernel
theorem dX10_asks_136 : decode cX10_asks 136 = .ok (.lconst 0, 1) := by decide +kernel
theorem dX10_asks_137 : decode cX10_asks 137 = .ok (.lastore, 1) := by decide +kernel
theorem dX10_asks_138 : decode cX10_asks 138 = .ok (.iinc 4 1, 3) := by decide +kernel
theorem dX10_asks_141 : decode cX10_asks 141 = .ok (.goto (-32), 3) := by decide +kernel
theorem dX10_asks_144 : decode cX10_asks 144 = .ok (.aload_n 0, 1) := by decide +kernel
theorem dX10_asks_145 : decode cX10_asks 145 = .ok (.iload_n 3, 1) := by decide +kernel
theorem dX10_asks_146 : decode cX10_asks 146 = .ok (.iconst 1, 1) := by decide +kernel
theorem dX10_asks_147 : decode cX10_asks 147 = .ok (.iadd, 1) := by decide +kernel
theorem dX10_asks_148 : decode cX10_asks 148 = .ok (.iconst (-1), 1) := by decide +kernel
theorem dX10_asks_149 : decode cX10_asks 149 = .ok (.invokevirtual 280, 3) := by decide +kernel
theorem dX10_asks_152 : decode cX10_asks 152 = .ok (.lstore 4, 2) := by decide +kernel
theorem dX10_asks_154 : decode cX10_asks 154 = .ok (.lload 4, 2) := by decide +kernel
theorem dX10_asks_156 : decode cX10_asks 156 = .ok (.lconst 0, 1) := by decide +kernel
theorem dX10_asks_157 : decode cX10_asks 157 = .ok (.lcmp, 1) := by decide +kernel
theorem dX10_asks_158 : decode cX10_asks 158 = .ok (.ifCond .ne 4, 3) := by decide +kernel
theorem dX10_asks_161 : decode cX10_asks 161 = .ok (.return_, 1) := by decide +kernel
theorem dX10_asks_162 : decode cX10_asks 162 = .ok (.lload 4, 2) := by decide +kernel
theorem dX10_asks_164 : decode cX10_asks 164 = .ok (.lconst 0, 1) := by decide +kernel
theorem dX10_asks_165 : decode cX10_asks 165 = .ok (.lcmp, 1) := by decide +kernel
theorem dX10_asks_166 : decode cX10_asks 166 = .ok (.ifCond .le 7, 3) := by decide +kernel
theorem dX10_asks_169 : decode cX10_asks 169 = .ok (.lconst 1, 1) := by decide +kernel
theorem dX10_asks_170 : decode cX10_asks 170 = .ok (.goto 6, 3) := by decide +kernel
theorem dX10_asks_173 : decode cX10_asks 173 = .ok (.ldc2_w 231, 3) := by decide +kernel
theorem dX10_asks_176 : decode cX10_asks 176 = .ok (.lstore 6, 2) := by decide +kernel
theorem dX10_asks_178 : decode cX10_asks 178 = .ok (.iconst 0, 1) := by decide +kernel
theorem dX10_asks_179 : decode cX10_asks 179 = .ok (.istore 8, 2) := by decide +kernel
theorem dX10_asks_181 : decode cX10_asks 181 = .ok (.iconst 0, 1) := by decide +kernel
theorem dX10_asks_182 : decode cX10_asks 182 = .ok (.istore 9, 2) := by decide +kernel
theorem dX10_asks_184 : decode cX10_asks 184 = .ok (.iload 9, 2) := by decide +kernel
theorem dX10_asks_186 : decode cX10_asks 186 = .ok (.aload_n 0, 1) := by decide +kernel
theorem dX10_asks_187 : decode cX10_asks 187 = .ok (.getfield 253, 3) := by decide +kernel
theorem dX10_asks_190 : decode cX10_asks 190 = .ok (.if_icmp .ge 48, 3) := by decide +kernel
theorem dX10_asks_193 : decode cX10_asks 193 = .ok (.aload_n 0, 1) := by decide +kernel
theorem dX10_asks_194 : decode cX10_asks 194 = .ok (.getfield 67, 3) := by decide +kernel
theorem dX10_asks_197 : decode cX10_asks 197 = .ok (.iload 9, 2) := by decide +kernel
theorem dX10_asks_199 : decode cX10_asks 199 = .ok (.lconst 0, 1) := by decide +kernel
theorem dX10_asks_200 : decode cX10_asks 200 = .ok (.lastore, 1) := by decide +kernel
theorem dX10_asks_201 : decode cX10_asks 201 = .ok (.iload_n 1, 1) := by decide +kernel
theorem dX10_asks_202 : decode cX10_asks 202 = .ok (.iload 9, 2) := by decide +kernel
theorem dX10_asks_204 : decode cX10_asks 204 = .ok (.invokestatic 277, 3) := by decide +kernel
theorem dX10_asks_207 : decode cX10_asks 207 = .ok (.ifCond .eq 25, 3) := by decide +kernel
theorem dX10_asks_210 : decode cX10_asks 210 = .ok (.aload_n 0, 1) := by decide +kernel
theorem dX10_asks_211 : decode cX10_asks 211 = .ok (.getfield 67, 3) := by decide +kernel
theorem dX10_asks_214 : decode cX10_asks 214 = .ok (.iload 9, 2) := by decide +kernel
theorem dX10_asks_216 : decode cX10_asks 216 = .ok (.lload 6, 2) := by decide +kernel
theorem dX10_asks_218 : decode cX10_asks 218 = .ok (.aload_n 0, 1) := by decide +kernel
theorem dX10_asks_219 : decode cX10_asks 219 = .ok (.iload_n 3, 1) := by decide +kernel
theorem dX10_asks_220 : decode cX10_asks 220 = .ok (.iconst 1, 1) := by decide +kernel
theorem dX10_asks_221 : decode cX10_asks 221 = .ok (.iadd, 1) := by decide +kernel
theorem dX10_asks_222 : decode cX10_asks 222 = .ok (.iload 8, 2) := by decide +kernel
theorem dX10_asks_224 : decode cX10_asks 224 = .ok (.invokevirtual 280, 3) := by decide +kernel
theorem dX10_asks_227 : decode cX10_asks 227 = .ok (.lmul, 1) := by decide +kernel
theorem dX10_asks_228 : decode cX10_asks 228 = .ok (.lastore, 1) := by decide +kernel
theorem dX10_asks_229 : decode cX10_asks 229 = .ok (.iinc 8 1, 3) := by decide +kernel
theorem dX10_asks_232 : decode cX10_asks 232 = .ok (.iinc 9 1, 3) := by decide +kernel
theorem dX10_asks_235 : decode cX10_asks 235 = .ok (.goto (-51), 3) := by decide +kernel
theorem dX10_asks_238 : decode cX10_asks 238 = .ok (.lload 6, 2) := by decide +kernel
theorem dX10_asks_240 : decode cX10_asks 240 = .ok (.aload_n 0, 1) := by decide +kernel
theorem dX10_asks_241 : decode cX10_asks 241 = .ok (.iload_n 3, 1) := by decide +kernel
theorem dX10_asks_242 : decode cX10_asks 242 = .ok (.iconst 1, 1) := by decide +kernel
theorem dX10_asks_243 : decode cX10_asks 243 = .ok (.iadd, 1) := by decide +kernel
theorem dX10_asks_244 : decode cX10_asks 244 = .ok (.iload_n 3, 1) := by decide +kernel
theorem dX10_asks_245 : decode cX10_asks 245 = .ok (.invokevirtual 280, 3) := by decide +kernel
theorem dX10_asks_248 : decode cX10_asks 248 = .ok (.lmul, 1) := by decide +kernel
theorem dX10_asks_249 : decode cX10_asks 249 = .ok (.lstore 9, 2) := by decide +kernel
theorem dX10_asks_251 : decode cX10_asks 251 = .ok (.aload_n 0, 1) := by decide +kernel
theorem dX10_asks_252 : decode cX10_asks 252 = .ok (.lload 9, 2) := by decide +kernel
theorem dX10_asks_254 : decode cX10_asks 254 = .ok (.invokevirtual 284, 3) := by decide +kernel
theorem dX10_asks_257 : decode cX10_asks 257 = .ok (.ifCond .eq 69, 3) := by decide +kernel
theorem dX10_asks_260 : decode cX10_asks 260 = .ok (.aload_n 0, 1) := by decide +kernel
theorem dX10_asks_261 : decode cX10_asks 261 = .ok (.lload 9, 2) := by decide +kernel
theorem dX10_asks_263 : decode cX10_asks 263 = .ok (.lload 6, 2) := by decide +kernel
theorem dX10_asks_265 : decode cX10_asks 265 = .ok (.lload 4, 2) := by decide +kernel
theorem dX10_asks_267 : decode cX10_asks 267 = .ok (.lmul, 1) := by decide +kernel
theorem dX10_asks_268 : decode cX10_asks 268 = .ok (.invokevirtual 288, 3) := by decide +kernel
theorem dX10_asks_271 : decode cX10_asks 271 = .ok (.ifCond .eq 55, 3) := by decide +kernel
theorem dX10_asks_274 : decode cX10_asks 274 = .ok (.aload_n 0, 1) := by decide +kernel
theorem dX10_asks_275 : decode cX10_asks 275 = .ok (.iconst 1, 1) := by decide +kernel
theorem dX10_asks_276 : decode cX10_asks 276 = .ok (.putfield 292, 3) := by decide +kernel
theorem dX10_asks_279 : decode cX10_asks 279 = .ok (.aload_n 0, 1) := by decide +kernel
theorem dX10_asks_280 : decode cX10_asks 280 = .ok (.lload 9, 2) := by decide +kernel
theorem dX10_asks_282 : decode cX10_asks 282 = .ok (.putfield 295, 3) := by decide +kernel
theorem dX10_asks_285 : decode cX10_asks 285 = .ok (.aload_n 0, 1) := by decide +kernel
theorem dX10_asks_286 : decode cX10_asks 286 = .ok (.lload 6, 2) := by decide +kernel
theorem dX10_asks_288 : decode cX10_asks 288 = .ok (.lload 4, 2) := by decide +kernel
theorem dX10_asks_290 : decode cX10_asks 290 = .ok (.lmul, 1) := by decide +kernel
theorem dX10_asks_291 : decode cX10_asks 291 = .ok (.putfield 299, 3) := by decide +kernel
theorem dX10_asks_294 : decode cX10_asks 294 = .ok (.iconst 0, 1) := by decide +kernel
theorem dX10_asks_295 : decode cX10_asks 295 = .ok (.istore 11, 2) := by decide +kernel
theorem dX10_asks_297 : decode cX10_asks 297 = .ok (.iload 11, 2) := by decide +kernel
theorem dX10_asks_299 : decode cX10_asks 299 = .ok (.aload_n 0, 1) := by decide +kernel
theorem dX10_asks_300 : decode cX10_asks 300 = .ok (.getfield 253, 3) := by decide +kernel
theorem dX10_asks_303 : decode cX10_asks 303 = .ok (.if_icmp .ge 23, 3) := by decide +kernel
theorem dX10_asks_306 : decode cX10_asks 306 = .ok (.aload_n 0, 1) := by decide +kernel
theorem dX10_asks_307 : decode cX10_asks 307 = .ok (.getfield 63, 3) := by decide +kernel
theorem dX10_asks_310 : decode cX10_asks 310 = .ok (.iload 11, 2) := by decide +kernel
theorem dX10_asks_312 : decode cX10_asks 312 = .ok (.aload_n 0, 1) := by decide +kernel
theorem dX10_asks_313 : decode cX10_asks 313 = .ok (.getfield 67, 3) := by decide +kernel
theorem dX10_asks_316 : decode cX10_asks 316 = .ok (.iload 11, 2) := by decide +kernel
theorem dX10_asks_318 : decode cX10_asks 318 = .ok (.laload, 1) := by decide +kernel
theorem dX10_asks_319 : decode cX10_asks 319 = .ok (.lastore, 1) := by decide +kernel
theorem dX10_asks_320 : decode cX10_asks 320 = .ok (.iinc 11 1, 3) := by decide +kernel
theorem dX10_asks_323 : decode cX10_asks 323 = .ok (.goto (-26), 3) := by decide +kernel
theorem dX10_asks_326 : decode cX10_asks 326 = .ok (.return_, 1) := by decide +kernel
abbrev j10_asks : xJ := (cX10_asks, 12, RX10, 4, 0, 0)
def F10_asks_b297 (z : Nat) (w : Nat) (x11 : Int32) (c_game : (Nat → Int32)) (c_rows : Int32) (c_columns : Int32) (c_isFound : Int32) (c_bestValue : Int64) (c_bestBelow : Int64) (c_bestShare : (Nat → Int64)) (c_share : (Nat → Int64)) (c_matrix : (Nat → Int64)) (c_system : (Nat → Int64)) : Option (Int32 × Int64 × Int64 × (Nat → Int64) × (Nat → Int64) × (Nat → Int64) × (Nat → Int64)) := match w with
  | 0 => none
  | w + 1 => if c_rows ≤ x11 then (some (c_isFound, c_bestValue, c_bestBelow, c_bestShare, c_share, c_matrix, c_system)) else (xg (xin x11 8) (xg (xin x11 8) (F10_asks_b297 z w (x11 + (1 : Int32)) c_game c_rows c_columns c_isFound c_bestValue c_bestBelow (vp_updL c_bestShare (xn x11) (c_share (xn x11))) c_share c_matrix c_system)))
theorem T10_asks_b297 {X : xX} {c_thrown : Int32} {c_told : (Nat → Int32)} {c_read : (Nat → Int32)} {c_many : (Nat → Int32)} {c_eights : (Nat → Int32)} {c_gains : (Nat → Int32)} {c_notes : (Nat → Int32)} {c_seen : (Nat → Int32)} {c_turns : (Nat → Int32)} {c_drawn : (Nat → Int32)} {c_state : Int32} {c_tape : (Nat → Int32)} {c_taped : Int32} {c_size : Int32} {c_from : Int32} {c_next : Int32} {c_token : Int32} {c_value : Int32} {c_fault : Int32} {c_number : Int32} {c_fives : (Nat → Int32)} {c_isLeft : (Nat → Int32)} {c_wentTimes : Int32} {c_goes : (Nat → Int32)} {c_isLeftLaid : Int32} {c_game : (Nat → Int32)} {c_rows : Int32} {c_columns : Int32} {c_shares : (Nat → Int32)} {c_allShares : Int32} {z : Nat} {v : Int32 × Int64 × Int64 × (Nat → Int64) × (Nat → Int64) × (Nat → Int64) × (Nat → Int64)} (hX : xIs (j10_asks) X none none (hM c_thrown c_told c_read c_many c_eights c_gains c_notes c_seen c_turns c_drawn c_state c_tape c_taped c_size c_from c_next c_token c_value c_fault c_number c_fives c_isLeft c_wentTimes c_goes c_isLeftLaid c_game c_rows c_columns v.1 v.2.1 v.2.2.1 v.2.2.2.1 v.2.2.2.2.1 v.2.2.2.2.2.1 v.2.2.2.2.2.2 c_shares c_allShares)) : ∀ (w : Nat) {x11 : Int32} {c_isFound : Int32} {c_bestValue : Int64} {c_bestBelow : Int64} {c_bestShare : (Nat → Int64)} {c_share : (Nat → Int64)} {c_matrix : (Nat → Int64)} {c_system : (Nat → Int64)}, F10_asks_b297 z w x11 c_game c_rows c_columns c_isFound c_bestValue c_bestBelow c_bestShare c_share c_matrix c_system = some v → xV (j10_asks) X 0 0 (hM c_thrown c_told c_read c_many c_eights c_gains c_notes c_seen c_turns c_drawn c_state c_tape c_taped c_size c_from c_next c_token c_value c_fault c_number c_fives c_isLeft c_wentTimes c_goes c_isLeftLaid c_game c_rows c_columns c_isFound c_bestValue c_bestBelow c_bestShare c_share c_matrix c_system c_shares c_allShares) 297 [(0, .ref 0), (11, .int x11)] [] := by
  intro w
  induction w with
  | zero => intro x11 c_isFound c_bestValue c_bestBelow c_bestShare c_share c_matrix c_system hf; cases hf
  | succ w ih =>
    intro x11 c_isFound c_bestValue c_bestBelow c_bestShare c_share c_matrix c_system hf
    unfold F10_asks_b297 at hf
    refine xV_iload 299 rfl dX10_asks_297 1 rfl ?_
    refine xV_aload_n 300 rfl dX10_asks_299 rfl 0 rfl ?_
    refine xV_get (v := .int c_rows) 303 rfl dX10_asks_300 f10_253 rfl rfl ?_
    refine xV_icmp_ge (tgt := 326) 306 rfl dX10_asks_303 (by decide) (fun h303 => ?_) (fun h303 => ?_)
    · have hf := xif_t hf h303
      obtain rfl := Option.some.inj hf
      exact xV_vret hX dX10_asks_326 (Nat.zero_le _) (Nat.zero_le _)
    · have hf := xif_f hf h303
      refine xV_aload_n 307 rfl dX10_asks_306 rfl 0 rfl ?_
      refine xV_get (v := .ref 15) 310 rfl dX10_asks_307 f10_63 rfl rfl ?_
      refine xV_iload 312 rfl dX10_asks_310 1 rfl ?_
      refine xV_aload_n 313 rfl dX10_asks_312 rfl 0 rfl ?_
      refine xV_get (v := .ref 16) 316 rfl dX10_asks_313 f10_67 rfl rfl ?_
      refine xV_iload 318 rfl dX10_asks_316 1 rfl ?_
      obtain ⟨hg318, hf⟩ := xg_s hf
      refine xV_laload 319 rfl dX10_asks_318 rfl (xin_ok hg318) rfl ?_
      obtain ⟨hg319, hf⟩ := xg_s hf
      refine xV_lastore (h' := (hM c_thrown c_told c_read c_many c_eights c_gains c_notes c_seen c_turns c_drawn c_state c_tape c_taped c_size c_from c_next c_token c_value c_fault c_number c_fives c_isLeft c_wentTimes c_goes c_isLeftLaid c_game c_rows c_columns c_isFound c_bestValue c_bestBelow (vp_updL c_bestShare (xn x11) (c_share (xn x11))) c_share c_matrix c_system c_shares c_allShares)) 320 rfl dX10_asks_319 rfl (xin_ok hg319) rfl rfl ?_
      refine xV_iinc (L' := [(11, .int (x11 + (1 : Int32))), (0, .ref 0)]) 323 rfl dX10_asks_320 1 rfl (xk_inc xk_i1) (xlt rfl) rfl ?_
      refine xV_goto (tgt := 297) dX10_asks_323 (by decide) ?_
      refine xV_sub [1, 0] rfl ?_
      exact ih hf
def F10_asks_b238 (z : Nat) (x3 : Int32) (x4 : Int64) (x6 : Int64) (c_game : (Nat → Int32)) (c_rows : Int32) (c_columns : Int32) (c_isFound : Int32) (c_bestValue : Int64) (c_bestBelow : Int64) (c_bestShare : (Nat → Int64)) (c_share : (Nat → Int64)) (c_matrix : (Nat → Int64)) (c_system : (Nat → Int64)) : Option (Int32 × Int64 × Int64 × (Nat → Int64) × (Nat → Int64) × (Nat → Int64) × (Nat → Int64)) :=
  (F10_with z (x3 + (1 : Int32)) x3 c_matrix c_system).bind (fun v245 => (F10_isLawful z (x6 * v245.1) c_game c_rows c_columns c_share).bind (fun v254 => if v254 = 0 then (some (c_isFound, c_bestValue, c_bestBelow, c_bestShare, c_share, v245.2, c_system)) else ((F10_isBetter z (x6 * v245.1) (x6 * x4) c_rows c_isFound c_bestValue c_bestBelow c_bestShare c_share).bind (fun v268 => if v268 = 0 then (some (c_isFound, c_bestValue, c_bestBelow, c_bestShare, c_share, v245.2, c_system)) else (F10_asks_b297 z z (0 : Int32) c_game c_rows c_columns (1 : Int32) (x6 * v245.1) (x6 * x4) c_bestShare c_share v245.2 c_system)))))
theorem T10_asks_b238 {X : xX} {c_thrown : Int32} {c_told : (Nat → Int32)} {c_read : (Nat → Int32)} {c_many : (Nat → Int32)} {c_eights : (Nat → Int32)} {c_gains : (Nat → Int32)} {c_notes : (Nat → Int32)} {c_seen : (Nat → Int32)} {c_turns : (Nat → Int32)} {c_drawn : (Nat → Int32)} {c_state : Int32} {c_tape : (Nat → Int32)} {c_taped : Int32} {c_size : Int32} {c_from : Int32} {c_next : Int32} {c_token : Int32} {c_value : Int32} {c_fault : Int32} {c_number : Int32} {c_fives : (Nat → Int32)} {c_isLeft : (Nat → Int32)} {c_wentTimes : Int32} {c_goes : (Nat → Int32)} {c_isLeftLaid : Int32} {c_shares : (Nat → Int32)} {c_allShares : Int32} {x3 : Int32} {x4 : Int64} {x6 : Int64} {c_game : (Nat → Int32)} {c_rows : Int32} {c_columns : Int32} {c_isFound : Int32} {c_bestValue : Int64} {c_bestBelow : Int64} {c_bestShare : (Nat → Int64)} {c_share : (Nat → Int64)} {c_matrix : (Nat → Int64)} {c_system : (Nat → Int64)} {z : Nat} {v : Int32 × Int64 × Int64 × (Nat → Int64) × (Nat → Int64) × (Nat → Int64) × (Nat → Int64)} (hX : xIs (j10_asks) X none none (hM c_thrown c_told c_read c_many c_eights c_gains c_notes c_seen c_turns c_drawn c_state c_tape c_taped c_size c_from c_next c_token c_value c_fault c_number c_fives c_isLeft c_wentTimes c_goes c_isLeftLaid c_game c_rows c_columns v.1 v.2.1 v.2.2.1 v.2.2.2.1 v.2.2.2.2.1 v.2.2.2.2.2.1 v.2.2.2.2.2.2 c_shares c_allShares)) (hf : F10_asks_b238 z x3 x4 x6 c_game c_rows c_columns c_isFound c_bestValue c_bestBelow c_bestShare c_share c_matrix c_system = some v) : xV (j10_asks) X 0 0 (hM c_thrown c_told c_read c_many c_eights c_gains c_notes c_seen c_turns c_drawn c_state c_tape c_taped c_size c_from c_next c_token c_value c_fault c_number c_fives c_isLeft c_wentTimes c_goes c_isLeftLaid c_game c_rows c_columns c_isFound c_bestValue c_bestBelow c_bestShare c_share c_matrix c_system c_shares c_allShares) 238 [(0, .ref 0), (3, .int x3), (4, .long x4), (6, .long x6)] [] := by
  unfold F10_asks_b238 at hf
  refine xV_lload 240 rfl dX10_asks_238 3 rfl ?_
  refine xV_aload_n 241 rfl dX10_asks_240 rfl 0 rfl ?_
  refine xV_iload_n 242 rfl dX10_asks_241 rfl 1 rfl ?_
  refine xV_iconst 243 rfl dX10_asks_242 xk_i1 ?_
  refine xV_iadd 244 rfl dX10_asks_243 ?_
  refine xV_iload_n 245 rfl dX10_asks_244 rfl 1 rfl ?_
  obtain ⟨v245, hv245, hf⟩ := xb_s hf
  refine xV_same (rest := [.long x6]) 248 rfl dX10_asks_245 rfl (C10_with X.1.2.1 hv245) m10_with v10_with k10_280 rfl rfl rfl rfl rfl (Nat.le_of_ble_eq_true rfl) (Nat.le_of_ble_eq_true rfl) (Nat.le_of_ble_eq_true rfl) ⟨Nat.le_refl _, Nat.le_refl _⟩ ?_
  show xV (j10_asks) X 0 0 (hM c_thrown c_told c_read c_many c_eights c_gains c_notes c_seen c_turns c_drawn c_state c_tape c_taped c_size c_from c_next c_token c_value c_fault c_number c_fives c_isLeft c_wentTimes c_goes c_isLeftLaid c_game c_rows c_columns c_isFound c_bestValue c_bestBelow c_bestShare c_share v245.2 c_system c_shares c_allShares) 248 [(0, .ref 0), (3, .int x3), (4, .long x4), (6, .long x6)] [.long v245.1, .long x6]
  refine xV_lmul 249 rfl dX10_asks_248 ?_
  refine xV_lstore (L' := [(9, .long (x6 * v245.1)), (0, .ref 0), (3, .int x3), (4, .long x4), (6, .long x6)]) 251 rfl dX10_asks_249 (xlt rfl) rfl ?_
  refine xV_aload_n 252 rfl dX10_asks_251 rfl 1 rfl ?_
  refine xV_lload 254 rfl dX10_asks_252 0 rfl ?_
  obtain ⟨v254, hv254, hf⟩ := xb_s hf
  refine xV_same (rest := []) 257 rfl dX10_asks_254 rfl (C10_isLawful X.1.2.1 hv254) m10_isLawful v10_isLawful k10_284 rfl rfl rfl rfl rfl (Nat.le_of_ble_eq_true rfl) (Nat.le_of_ble_eq_true rfl) (Nat.le_of_ble_eq_true rfl) ⟨Nat.le_refl _, Nat.le_refl _⟩ ?_
  show xV (j10_asks) X 0 0 (hM c_thrown c_told c_read c_many c_eights c_gains c_notes c_seen c_turns c_drawn c_state c_tape c_taped c_size c_from c_next c_token c_value c_fault c_number c_fives c_isLeft c_wentTimes c_goes c_isLeftLaid c_game c_rows c_columns c_isFound c_bestValue c_bestBelow c_bestShare c_share v245.2 c_system c_shares c_allShares) 257 [(9, .long (x6 * v245.1)), (0, .ref 0), (3, .int x3), (4, .long x4), (6, .long x6)] [.int v254]
  refine xV_if_eq (tgt := 326) 260 rfl dX10_asks_257 (by decide) (fun h257 => ?_) (fun h257 => ?_)
  · have hf := xif_t hf h257
    obtain rfl := Option.some.inj hf
    exact xV_vret hX dX10_asks_326 (Nat.zero_le _) (Nat.zero_le _)
  · have hf := xif_f hf h257
    refine xV_aload_n 261 rfl dX10_asks_260 rfl 1 rfl ?_
    refine xV_lload 263 rfl dX10_asks_261 0 rfl ?_
    refine xV_lload 265 rfl dX10_asks_263 4 rfl ?_
    refine xV_lload 267 rfl dX10_asks_265 3 rfl ?_
    refine xV_lmul 268 rfl dX10_asks_267 ?_
    obtain ⟨v268, hv268, hf⟩ := xb_s hf
    refine xV_same (rest := []) 271 rfl dX10_asks_268 rfl (C10_isBetter X.1.2.1 hv268) m10_isBetter v10_isBetter k10_288 rfl rfl rfl rfl rfl (Nat.le_of_ble_eq_true rfl) (Nat.le_of_ble_eq_true rfl) (Nat.le_of_ble_eq_true rfl) ⟨Nat.le_refl _, Nat.le_refl _⟩ ?_
    show xV (j10_asks) X 0 0 (hM c_thrown c_told c_read c_many c_eights c_gains c_notes c_seen c_turns c_drawn c_state c_tape c_taped c_size c_from c_next c_token c_value c_fault c_number c_fives c_isLeft c_wentTimes c_goes c_isLeftLaid c_game c_rows c_columns c_isFound c_bestValue c_bestBelow c_bestShare c_share v245.2 c_system c_shares c_allShares) 271 [(9, .long (x6 * v245.1)), (0, .ref 0), (3, .int x3), (4, .long x4), (6, .long x6)] [.int v268]
    refine xV_if_eq (tgt := 326) 274 rfl dX10_asks_271 (by decide) (fun h271 => ?_) (fun h271 => ?_)
    · have hf := xif_t hf h271
      obtain rfl := Option.some.inj hf
      exact xV_vret hX dX10_asks_326 (Nat.zero_le _) (Nat.zero_le _)
    · have hf := xif_f hf h271
      refine xV_aload_n 275 rfl dX10_asks_274 rfl 1 rfl ?_
      refine xV_iconst 276 rfl dX10_asks_275 xk_i1 ?_
      refine xV_put (h' := (hM c_thrown c_told c_read c_many c_eights c_gains c_notes c_seen c_turns c_drawn c_state c_tape c_taped c_size c_from c_next c_token c_value c_fault c_number c_fives c_isLeft c_wentTimes c_goes c_isLeftLaid c_game c_rows c_columns (1 : Int32) c_bestValue c_bestBelow c_bestShare c_share v245.2 c_system c_shares c_allShares)) 279 rfl dX10_asks_276 f10_292 rfl nf10_28 (fun _ => rfl) (fun _ => rfl) (Nat.le_of_ble_eq_true rfl) rfl ?_
      refine xV_aload_n 280 rfl dX10_asks_279 rfl 1 rfl ?_
      refine xV_lload 282 rfl dX10_asks_280 0 rfl ?_
      refine xV_put (h' := (hM c_thrown c_told c_read c_many c_eights c_gains c_notes c_seen c_turns c_drawn c_state c_tape c_taped c_size c_from c_next c_token c_value c_fault c_number c_fives c_isLeft c_wentTimes c_goes c_isLeftLaid c_game c_rows c_columns (1 : Int32) (x6 * v245.1) c_bestBelow c_bestShare c_share v245.2 c_system c_shares c_allShares)) 285 rfl dX10_asks_282 f10_295 rfl nf10_29 (fun _ => rfl) (fun _ => rfl) (Nat.le_of_ble_eq_true rfl) rfl ?_
      refine xV_aload_n 286 rfl dX10_asks_285 rfl 1 rfl ?_
      refine xV_lload 288 rfl dX10_asks_286 4 rfl ?_
      refine xV_lload 290 rfl dX10_asks_288 3 rfl ?_
      refine xV_lmul 291 rfl dX10_asks_290 ?_
      refine xV_put (h' := (hM c_thrown c_told c_read c_many c_eights c_gains c_notes c_seen c_turns c_drawn c_state c_tape c_taped c_size c_from c_next c_token c_value c_fault c_number c_fives c_isLeft c_wentTimes c_goes c_isLeftLaid c_game c_rows c_columns (1 : Int32) (x6 * v245.1) (x6 * x4) c_bestShare c_share v245.2 c_system c_shares c_allShares)) 294 rfl dX10_asks_291 f10_299 rfl nf10_30 (fun _ => rfl) (fun _ => rfl) (Nat.le_of_ble_eq_true rfl) rfl ?_
      refine xV_iconst 295 rfl dX10_asks_294 xk_i0 ?_
      refine xV_istore (L' := [(11, .int (0 : Int32)), (9, .long (x6 * v245.1)), (0, .ref 0), (3, .int x3), (4, .long x4), (6, .long x6)]) 297 rfl dX10_asks_295 (xlt rfl) rfl ?_
      refine xV_sub [2, 0] rfl ?_
      exact T10_asks_b297 hX _ hf
def F10_asks_b232 (z : Nat) (x1 : Int32) (x3 : Int32) (x4 : Int64) (x6 : Int64) (x8 : Int32) (x9 : Int32) (c_game : (Nat → Int32)) (c_rows : Int32) (c_columns : Int32) (c_isFound : Int32) (c_bestValue : Int64) (c_bestBelow : Int64) (c_bestShare : (Nat → Int64)) (c_share : (Nat → Int64)) (c_matrix : (Nat → Int64)) (c_system : (Nat → Int64)) (k184 : Int32 → Int32 → Int64 → Int64 → Int32 → Int32 → (Nat → Int32) → Int32 → Int32 → Int32 → Int64 → Int64 → (Nat → Int64) → (Nat → Int64) → (Nat → Int64) → (Nat → Int64) → Option (Int32 × Int64 × Int64 × (Nat → Int64) × (Nat → Int64) × (Nat → Int64) × (Nat → Int64))) : Option (Int32 × Int64 × Int64 × (Nat → Int64) × (Nat → Int64) × (Nat → Int64) × (Nat → Int64)) :=
  k184 x1 x3 x4 x6 x8 (x9 + (1 : Int32)) c_game c_rows c_columns c_isFound c_bestValue c_bestBelow c_bestShare c_share c_matrix c_system
theorem T10_asks_b232 {X : xX} {c_thrown : Int32} {c_told : (Nat → Int32)} {c_read : (Nat → Int32)} {c_many : (Nat → Int32)} {c_eights : (Nat → Int32)} {c_gains : (Nat → Int32)} {c_notes : (Nat → Int32)} {c_seen : (Nat → Int32)} {c_turns : (Nat → Int32)} {c_drawn : (Nat → Int32)} {c_state : Int32} {c_tape : (Nat → Int32)} {c_taped : Int32} {c_size : Int32} {c_from : Int32} {c_next : Int32} {c_token : Int32} {c_value : Int32} {c_fault : Int32} {c_number : Int32} {c_fives : (Nat → Int32)} {c_isLeft : (Nat → Int32)} {c_wentTimes : Int32} {c_goes : (Nat → Int32)} {c_isLeftLaid : Int32} {c_shares : (Nat → Int32)} {c_allShares : Int32} {x1 : Int32} {x3 : Int32} {x4 : Int64} {x6 : Int64} {x8 : Int32} {x9 : Int32} {c_game : (Nat → Int32)} {c_rows : Int32} {c_columns : Int32} {c_isFound : Int32} {c_bestValue : Int64} {c_bestBelow : Int64} {c_bestShare : (Nat → Int64)} {c_share : (Nat → Int64)} {c_matrix : (Nat → Int64)} {c_system : (Nat → Int64)} {z : Nat} {v : Int32 × Int64 × Int64 × (Nat → Int64) × (Nat → Int64) × (Nat → Int64) × (Nat → Int64)} {k184 : Int32 → Int32 → Int64 → Int64 → Int32 → Int32 → (Nat → Int32) → Int32 → Int32 → Int32 → Int64 → Int64 → (Nat → Int64) → (Nat → Int64) → (Nat → Int64) → (Nat → Int64) → Option (Int32 × Int64 × Int64 × (Nat → Int64) × (Nat → Int64) × (Nat → Int64) × (Nat → Int64))} (hX : xIs (j10_asks) X none none (hM c_thrown c_told c_read c_many c_eights c_gains c_notes c_seen c_turns c_drawn c_state c_tape c_taped c_size c_from c_next c_token c_value c_fault c_number c_fives c_isLeft c_wentTimes c_goes c_isLeftLaid c_game c_rows c_columns v.1 v.2.1 v.2.2.1 v.2.2.2.1 v.2.2.2.2.1 v.2.2.2.2.2.1 v.2.2.2.2.2.2 c_shares c_allShares)) (hk184 : ∀ {x1 : Int32} {x3 : Int32} {x4 : Int64} {x6 : Int64} {x8 : Int32} {x9 : Int32} {c_isFound : Int32} {c_bestValue : Int64} {c_bestBelow : Int64} {c_bestShare : (Nat → Int64)} {c_share : (Nat → Int64)} {c_matrix : (Nat → Int64)} {c_system : (Nat → Int64)}, k184 x1 x3 x4 x6 x8 x9 c_game c_rows c_columns c_isFound c_bestValue c_bestBelow c_bestShare c_share c_matrix c_system = some v → xV (j10_asks) X 0 0 (hM c_thrown c_told c_read c_many c_eights c_gains c_notes c_seen c_turns c_drawn c_state c_tape c_taped c_size c_from c_next c_token c_value c_fault c_number c_fives c_isLeft c_wentTimes c_goes c_isLeftLaid c_game c_rows c_columns c_isFound c_bestValue c_bestBelow c_bestShare c_share c_matrix c_system c_shares c_allShares) 184 [(0, .ref 0), (1, .int x1), (3, .int x3), (4, .long x4), (6, .long x6), (8, .int x8), (9, .int x9)] []) (hf : F10_asks_b232 z x1 x3 x4 x6 x8 x9 c_game c_rows c_columns c_isFound c_bestValue c_bestBelow c_bestShare c_share c_matrix c_system k184 = some v) : xV (j10_asks) X 0 0 (hM c_thrown c_told c_read c_many c_eights c_gains c_notes c_seen c_turns c_drawn c_state c_tape c_taped c_size c_from c_next c_token c_value c_fault c_number c_fives c_isLeft c_wentTimes c_goes c_isLeftLaid c_game c_rows c_columns c_isFound c_bestValue c_bestBelow c_bestShare c_share c_matrix c_system c_shares c_allShares) 232 [(0, .ref 0), (1, .int x1), (3, .int x3), (4, .long x4), (6, .long x6), (8, .int x8), (9, .int x9)] [] := by
  unfold F10_asks_b232 at hf
  refine xV_iinc (L' := [(9, .int (x9 + (1 : Int32))), (0, .ref 0), (1, .int x1), (3, .int x3), (4, .long x4), (6, .long x6), (8, .int x8)]) 235 rfl dX10_asks_232 6 rfl (xk_inc xk_i1) (xlt rfl) rfl ?_
  refine xV_goto (tgt := 184) dX10_asks_235 (by decide) ?_
  refine xV_sub [1, 2, 3, 4, 5, 6, 0] rfl ?_
  exact hk184 hf
def F10_asks_b184 (z : Nat) (w : Nat) (x1 : Int32) (x3 : Int32) (x4 : Int64) (x6 : Int64) (x8 : Int32) (x9 : Int32) (c_game : (Nat → Int32)) (c_rows : Int32) (c_columns : Int32) (c_isFound : Int32) (c_bestValue : Int64) (c_bestBelow : Int64) (c_bestShare : (Nat → Int64)) (c_share : (Nat → Int64)) (c_matrix : (Nat → Int64)) (c_system : (Nat → Int64)) : Option (Int32 × Int64 × Int64 × (Nat → Int64) × (Nat → Int64) × (Nat → Int64) × (Nat → Int64)) := match w with
  | 0 => none
  | w + 1 => if c_rows ≤ x9 then (F10_asks_b238 z x3 x4 x6 c_game c_rows c_columns c_isFound c_bestValue c_bestBelow c_bestShare c_share c_matrix c_system) else (xg (xin x9 8) ((F10_has x1 x9).bind (fun v204 => if v204 = 0 then (F10_asks_b232 z x1 x3 x4 x6 x8 x9 c_game c_rows c_columns c_isFound c_bestValue c_bestBelow c_bestShare (vp_updL c_share (xn x9) (0 : Int64)) c_matrix c_system (fun q0 q1 q2 q3 q4 q5 q6 q7 q8 q9 q10 q11 q12 q13 q14 q15 => F10_asks_b184 z w q0 q1 q2 q3 q4 q5 q6 q7 q8 q9 q10 q11 q12 q13 q14 q15)) else ((F10_with z (x3 + (1 : Int32)) x8 c_matrix c_system).bind (fun v224 => xg (xin x9 8) (F10_asks_b232 z x1 x3 x4 x6 (x8 + (1 : Int32)) x9 c_game c_rows c_columns c_isFound c_bestValue c_bestBelow c_bestShare (vp_updL (vp_updL c_share (xn x9) (0 : Int64)) (xn x9) (x6 * v224.1)) v224.2 c_system (fun q0 q1 q2 q3 q4 q5 q6 q7 q8 q9 q10 q11 q12 q13 q14 q15 => F10_asks_b184 z w q0 q1 q2 q3 q4 q5 q6 q7 q8 q9 q10 q11 q12 q13 q14 q15)))))))
theorem T10_asks_b184 {X : xX} {c_thrown : Int32} {c_told : (Nat → Int32)} {c_read : (Nat → Int32)} {c_many : (Nat → Int32)} {c_eights : (Nat → Int32)} {c_gains : (Nat → Int32)} {c_notes : (Nat → Int32)} {c_seen : (Nat → Int32)} {c_turns : (Nat → Int32)} {c_drawn : (Nat → Int32)} {c_state : Int32} {c_tape : (Nat → Int32)} {c_taped : Int32} {c_size : Int32} {c_from : Int32} {c_next : Int32} {c_token : Int32} {c_value : Int32} {c_fault : Int32} {c_number : Int32} {c_fives : (Nat → Int32)} {c_isLeft : (Nat → Int32)} {c_wentTimes : Int32} {c_goes : (Nat → Int32)} {c_isLeftLaid : Int32} {c_game : (Nat → Int32)} {c_rows : Int32} {c_columns : Int32} {c_shares : (Nat → Int32)} {c_allShares : Int32} {z : Nat} {v : Int32 × Int64 × Int64 × (Nat → Int64) × (Nat → Int64) × (Nat → Int64) × (Nat → Int64)} (hX : xIs (j10_asks) X none none (hM c_thrown c_told c_read c_many c_eights c_gains c_notes c_seen c_turns c_drawn c_state c_tape c_taped c_size c_from c_next c_token c_value c_fault c_number c_fives c_isLeft c_wentTimes c_goes c_isLeftLaid c_game c_rows c_columns v.1 v.2.1 v.2.2.1 v.2.2.2.1 v.2.2.2.2.1 v.2.2.2.2.2.1 v.2.2.2.2.2.2 c_shares c_allShares)) : ∀ (w : Nat) {x1 : Int32} {x3 : Int32} {x4 : Int64} {x6 : Int64} {x8 : Int32} {x9 : Int32} {c_isFound : Int32} {c_bestValue : Int64} {c_bestBelow : Int64} {c_bestShare : (Nat → Int64)} {c_share : (Nat → Int64)} {c_matrix : (Nat → Int64)} {c_system : (Nat → Int64)}, F10_asks_b184 z w x1 x3 x4 x6 x8 x9 c_game c_rows c_columns c_isFound c_bestValue c_bestBelow c_bestShare c_share c_matrix c_system = some v → xV (j10_asks) X 0 0 (hM c_thrown c_told c_read c_many c_eights c_gains c_notes c_seen c_turns c_drawn c_state c_tape c_taped c_size c_from c_next c_token c_value c_fault c_number c_fives c_isLeft c_wentTimes c_goes c_isLeftLaid c_game c_rows c_columns c_isFound c_bestValue c_bestBelow c_bestShare c_share c_matrix c_system c_shares c_allShares) 184 [(0, .ref 0), (1, .int x1), (3, .int x3), (4, .long x4), (6, .long x6), (8, .int x8), (9, .int x9)] [] := by
  intro w
  induction w with
  | zero => intro x1 x3 x4 x6 x8 x9 c_isFound c_bestValue c_bestBelow c_bestShare c_share c_matrix c_system hf; cases hf
  | succ w ih =>
    intro x1 x3 x4 x6 x8 x9 c_isFound c_bestValue c_bestBelow c_bestShare c_share c_matrix c_system hf
    unfold F10_asks_b184 at hf
    refine xV_iload 186 rfl dX10_asks_184 6 rfl ?_
    refine xV_aload_n 187 rfl dX10_asks_186 rfl 0 rfl ?_
    refine xV_get (v := .int c_rows) 190 rfl dX10_asks_187 f10_253 rfl rfl ?_
    refine xV_icmp_ge (tgt := 238) 193 rfl dX10_asks_190 (by decide) (fun h190 => ?_) (fun h190 => ?_)
    · have hf := xif_t hf h190
      refine xV_sub [0, 2, 3, 4] rfl ?_
      exact T10_asks_b238 hX hf
    · have hf := xif_f hf h190
      refine xV_aload_n 194 rfl dX10_asks_193 rfl 0 rfl ?_
      refine xV_get (v := .ref 16) 197 rfl dX10_asks_194 f10_67 rfl rfl ?_
      refine xV_iload 199 rfl dX10_asks_197 6 rfl ?_
      refine xV_lconst (v := 0) 200 rfl dX10_asks_199 (by decide) ?_
      obtain ⟨hg200, hf⟩ := xg_s hf
      refine xV_lastore (h' := (hM c_thrown c_told c_read c_many c_eights c_gains c_notes c_seen c_turns c_drawn c_state c_tape c_taped c_size c_from c_next c_token c_value c_fault c_number c_fives c_isLeft c_wentTimes c_goes c_isLeftLaid c_game c_rows c_columns c_isFound c_bestValue c_bestBelow c_bestShare (vp_updL c_share (xn x9) (0 : Int64)) c_matrix c_system c_shares c_allShares)) 201 rfl dX10_asks_200 rfl (xin_ok hg200) rfl rfl ?_
      refine xV_iload_n 202 rfl dX10_asks_201 rfl 1 rfl ?_
      refine xV_iload 204 rfl dX10_asks_202 6 rfl ?_
      obtain ⟨v204, hv204, hf⟩ := xb_s hf
      refine xV_st0 (rest := []) 207 rfl dX10_asks_204 rfl (C10_has X.1.2.1 hv204) m10_has s10_has k10_277 rfl (Nat.le_of_ble_eq_true rfl) (Nat.le_of_ble_eq_true rfl) (Nat.le_of_ble_eq_true rfl) ⟨Nat.le_refl _, Nat.le_refl _⟩ ?_
      show xV (j10_asks) X 0 0 (hM c_thrown c_told c_read c_many c_eights c_gains c_notes c_seen c_turns c_drawn c_state c_tape c_taped c_size c_from c_next c_token c_value c_fault c_number c_fives c_isLeft c_wentTimes c_goes c_isLeftLaid c_game c_rows c_columns c_isFound c_bestValue c_bestBelow c_bestShare (vp_updL c_share (xn x9) (0 : Int64)) c_matrix c_system c_shares c_allShares) 207 [(0, .ref 0), (1, .int x1), (3, .int x3), (4, .long x4), (6, .long x6), (8, .int x8), (9, .int x9)] [.int v204]
      refine xV_if_eq (tgt := 232) 210 rfl dX10_asks_207 (by decide) (fun h207 => ?_) (fun h207 => ?_)
      · have hf := xif_t hf h207
        exact T10_asks_b232 hX (fun {_ _ _ _ _ _ _ _ _ _ _ _ _} hq => ih hq) hf
      · have hf := xif_f hf h207
        refine xV_aload_n 211 rfl dX10_asks_210 rfl 0 rfl ?_
        refine xV_get (v := .ref 16) 214 rfl dX10_asks_211 f10_67 rfl rfl ?_
        refine xV_iload 216 rfl dX10_asks_214 6 rfl ?_
        refine xV_lload 218 rfl dX10_asks_216 4 rfl ?_
        refine xV_aload_n 219 rfl dX10_asks_218 rfl 0 rfl ?_
        refine xV_iload_n 220 rfl dX10_asks_219 rfl 2 rfl ?_
        refine xV_iconst 221 rfl dX10_asks_220 xk_i1 ?_
        refine xV_iadd 222 rfl dX10_asks_221 ?_
        refine xV_iload 224 rfl dX10_asks_222 5 rfl ?_
        obtain ⟨v224, hv224, hf⟩ := xb_s hf
        refine xV_same (rest := [.long x6, .int x9, .ref 16]) 227 rfl dX10_asks_224 rfl (C10_with X.1.2.1 hv224) m10_with v10_with k10_280 rfl rfl rfl rfl rfl (Nat.le_of_ble_eq_true rfl) (Nat.le_of_ble_eq_true rfl) (Nat.le_of_ble_eq_true rfl) ⟨Nat.le_refl _, Nat.le_refl _⟩ ?_
        show xV (j10_asks) X 0 0 (hM c_thrown c_told c_read c_many c_eights c_gains c_notes c_seen c_turns c_drawn c_state c_tape c_taped c_size c_from c_next c_token c_value c_fault c_number c_fives c_isLeft c_wentTimes c_goes c_isLeftLaid c_game c_rows c_columns c_isFound c_bestValue c_bestBelow c_bestShare (vp_updL c_share (xn x9) (0 : Int64)) v224.2 c_system c_shares c_allShares) 227 [(0, .ref 0), (1, .int x1), (3, .int x3), (4, .long x4), (6, .long x6), (8, .int x8), (9, .int x9)] [.long v224.1, .long x6, .int x9, .ref 16]
        refine xV_lmul 228 rfl dX10_asks_227 ?_
        obtain ⟨hg228, hf⟩ := xg_s hf
        refine xV_lastore (h' := (hM c_thrown c_told c_read c_many c_eights c_gains c_notes c_seen c_turns c_drawn c_state c_tape c_taped c_size c_from c_next c_token c_value c_fault c_number c_fives c_isLeft c_wentTimes c_goes c_isLeftLaid c_game c_rows c_columns c_isFound c_bestValue c_bestBelow c_bestShare (vp_updL (vp_updL c_share (xn x9) (0 : Int64)) (xn x9) (x6 * v224.1)) v224.2 c_system c_shares c_allShares)) 229 rfl dX10_asks_228 rfl (xin_ok hg228) rfl rfl ?_
        refine xV_iinc (L' := [(8, .int (x8 + (1 : Int32))), (0, .ref 0), (1, .int x1), (3, .int x3), (4, .long x4), (6, .long x6), (9, .int x9)]) 232 rfl dX10_asks_229 5 rfl (xk_inc xk_i1) (xlt rfl) rfl ?_
        refine xV_sub [1, 2, 3, 4, 5, 0, 6] rfl ?_
        exact T10_asks_b232 hX (fun {_ _ _ _ _ _ _ _ _ _ _ _ _} hq => ih hq) hf
def F10_asks_b176 (z : Nat) (x1 : Int32) (x3 : Int32) (x4 : Int64) (s0 : Int64) (c_game : (Nat → Int32)) (c_rows : Int32) (c_columns : Int32) (c_isFound : Int32) (c_bestValue : Int64) (c_bestBelow : Int64) (c_bestShare : (Nat → Int64)) (c_share : (Nat → Int64)) (c_matrix : (Nat → Int64)) (c_system : (Nat → Int64)) : Option (Int32 × Int64 × Int64 × (Nat → Int64) × (Nat → Int64) × (Nat → Int64) × (Nat → Int64)) :=
  F10_asks_b184 z z x1 x3 x4 s0 (0 : Int32) (0 : Int32) c_game c_rows c_columns c_isFound c_bestValue c_bestBelow c_bestShare c_share c_matrix c_system
theorem T10_asks_b176 {X : xX} {c_thrown : Int32} {c_told : (Nat → Int32)} {c_read : (Nat → Int32)} {c_many : (Nat → Int32)} {c_eights : (Nat → Int32)} {c_gains : (Nat → Int32)} {c_notes : (Nat → Int32)} {c_seen : (Nat → Int32)} {c_turns : (Nat → Int32)} {c_drawn : (Nat → Int32)} {c_state : Int32} {c_tape : (Nat → Int32)} {c_taped : Int32} {c_size : Int32} {c_from : Int32} {c_next : Int32} {c_token : Int32} {c_value : Int32} {c_fault : Int32} {c_number : Int32} {c_fives : (Nat → Int32)} {c_isLeft : (Nat → Int32)} {c_wentTimes : Int32} {c_goes : (Nat → Int32)} {c_isLeftLaid : Int32} {c_shares : (Nat → Int32)} {c_allShares : Int32} {x1 : Int32} {x3 : Int32} {x4 : Int64} {s0 : Int64} {c_game : (Nat → Int32)} {c_rows : Int32} {c_columns : Int32} {c_isFound : Int32} {c_bestValue : Int64} {c_bestBelow : Int64} {c_bestShare : (Nat → Int64)} {c_share : (Nat → Int64)} {c_matrix : (Nat → Int64)} {c_system : (Nat → Int64)} {z : Nat} {v : Int32 × Int64 × Int64 × (Nat → Int64) × (Nat → Int64) × (Nat → Int64) × (Nat → Int64)} (hX : xIs (j10_asks) X none none (hM c_thrown c_told c_read c_many c_eights c_gains c_notes c_seen c_turns c_drawn c_state c_tape c_taped c_size c_from c_next c_token c_value c_fault c_number c_fives c_isLeft c_wentTimes c_goes c_isLeftLaid c_game c_rows c_columns v.1 v.2.1 v.2.2.1 v.2.2.2.1 v.2.2.2.2.1 v.2.2.2.2.2.1 v.2.2.2.2.2.2 c_shares c_allShares)) (hf : F10_asks_b176 z x1 x3 x4 s0 c_game c_rows c_columns c_isFound c_bestValue c_bestBelow c_bestShare c_share c_matrix c_system = some v) : xV (j10_asks) X 0 0 (hM c_thrown c_told c_read c_many c_eights c_gains c_notes c_seen c_turns c_drawn c_state c_tape c_taped c_size c_from c_next c_token c_value c_fault c_number c_fives c_isLeft c_wentTimes c_goes c_isLeftLaid c_game c_rows c_columns c_isFound c_bestValue c_bestBelow c_bestShare c_share c_matrix c_system c_shares c_allShares) 176 [(0, .ref 0), (1, .int x1), (3, .int x3), (4, .long x4)] [.long s0] := by
  unfold F10_asks_b176 at hf
  refine xV_lstore (L' := [(6, .long s0), (0, .ref 0), (1, .int x1), (3, .int x3), (4, .long x4)]) 178 rfl dX10_asks_176 (xlt rfl) rfl ?_
  refine xV_iconst 179 rfl dX10_asks_178 xk_i0 ?_
  refine xV_istore (L' := [(8, .int (0 : Int32)), (6, .long s0), (0, .ref 0), (1, .int x1), (3, .int x3), (4, .long x4)]) 181 rfl dX10_asks_179 (xlt rfl) rfl ?_
  refine xV_iconst 182 rfl dX10_asks_181 xk_i0 ?_
  refine xV_istore (L' := [(9, .int (0 : Int32)), (8, .int (0 : Int32)), (6, .long s0), (0, .ref 0), (1, .int x1), (3, .int x3), (4, .long x4)]) 184 rfl dX10_asks_182 (xlt rfl) rfl ?_
  refine xV_sub [3, 4, 5, 6, 2, 1, 0] rfl ?_
  exact T10_asks_b184 hX _ hf
def F10_asks_b144 (z : Nat) (x1 : Int32) (x3 : Int32) (c_game : (Nat → Int32)) (c_rows : Int32) (c_columns : Int32) (c_isFound : Int32) (c_bestValue : Int64) (c_bestBelow : Int64) (c_bestShare : (Nat → Int64)) (c_share : (Nat → Int64)) (c_matrix : (Nat → Int64)) (c_system : (Nat → Int64)) : Option (Int32 × Int64 × Int64 × (Nat → Int64) × (Nat → Int64) × (Nat → Int64) × (Nat → Int64)) :=
  (F10_with z (x3 + (1 : Int32)) (-1 : Int32) c_matrix c_system).bind (fun v149 => if (lg_cmp v149.1 (0 : Int64)) = 0 then (some (c_isFound, c_bestValue, c_bestBelow, c_bestShare, c_share, v149.2, c_system)) else (if (lg_cmp v149.1 (0 : Int64)) ≤ 0 then (F10_asks_b176 z x1 x3 v149.1 (-1 : Int64) c_game c_rows c_columns c_isFound c_bestValue c_bestBelow c_bestShare c_share v149.2 c_system) else (F10_asks_b176 z x1 x3 v149.1 (1 : Int64) c_game c_rows c_columns c_isFound c_bestValue c_bestBelow c_bestShare c_share v149.2 c_system)))
theorem T10_asks_b144 {X : xX} {c_thrown : Int32} {c_told : (Nat → Int32)} {c_read : (Nat → Int32)} {c_many : (Nat → Int32)} {c_eights : (Nat → Int32)} {c_gains : (Nat → Int32)} {c_notes : (Nat → Int32)} {c_seen : (Nat → Int32)} {c_turns : (Nat → Int32)} {c_drawn : (Nat → Int32)} {c_state : Int32} {c_tape : (Nat → Int32)} {c_taped : Int32} {c_size : Int32} {c_from : Int32} {c_next : Int32} {c_token : Int32} {c_value : Int32} {c_fault : Int32} {c_number : Int32} {c_fives : (Nat → Int32)} {c_isLeft : (Nat → Int32)} {c_wentTimes : Int32} {c_goes : (Nat → Int32)} {c_isLeftLaid : Int32} {c_shares : (Nat → Int32)} {c_allShares : Int32} {x1 : Int32} {x3 : Int32} {c_game : (Nat → Int32)} {c_rows : Int32} {c_columns : Int32} {c_isFound : Int32} {c_bestValue : Int64} {c_bestBelow : Int64} {c_bestShare : (Nat → Int64)} {c_share : (Nat → Int64)} {c_matrix : (Nat → Int64)} {c_system : (Nat → Int64)} {z : Nat} {v : Int32 × Int64 × Int64 × (Nat → Int64) × (Nat → Int64) × (Nat → Int64) × (Nat → Int64)} (hX : xIs (j10_asks) X none none (hM c_thrown c_told c_read c_many c_eights c_gains c_notes c_seen c_turns c_drawn c_state c_tape c_taped c_size c_from c_next c_token c_value c_fault c_number c_fives c_isLeft c_wentTimes c_goes c_isLeftLaid c_game c_rows c_columns v.1 v.2.1 v.2.2.1 v.2.2.2.1 v.2.2.2.2.1 v.2.2.2.2.2.1 v.2.2.2.2.2.2 c_shares c_allShares)) (hf : F10_asks_b144 z x1 x3 c_game c_rows c_columns c_isFound c_bestValue c_bestBelow c_bestShare c_share c_matrix c_system = some v) : xV (j10_asks) X 0 0 (hM c_thrown c_told c_read c_many c_eights c_gains c_notes c_seen c_turns c_drawn c_state c_tape c_taped c_size c_from c_next c_token c_value c_fault c_number c_fives c_isLeft c_wentTimes c_goes c_isLeftLaid c_game c_rows c_columns c_isFound c_bestValue c_bestBelow c_bestShare c_share c_matrix c_system c_shares c_allShares) 144 [(0, .ref 0), (1, .int x1), (3, .int x3)] [] := by
  unfold F10_asks_b144 at hf
  refine xV_aload_n 145 rfl dX10_asks_144 rfl 0 rfl ?_
  refine xV_iload_n 146 rfl dX10_asks_145 rfl 2 rfl ?_
  refine xV_iconst 147 rfl dX10_asks_146 xk_i1 ?_
  refine xV_iadd 148 rfl dX10_asks_147 ?_
  refine xV_iconst 149 rfl dX10_asks_148 xk_im1 ?_
  obtain ⟨v149, hv149, hf⟩ := xb_s hf
  refine xV_same (rest := []) 152 rfl dX10_asks_149 rfl (C10_with X.1.2.1 hv149) m10_with v10_with k10_280 rfl rfl rfl rfl rfl (Nat.le_of_ble_eq_true rfl) (Nat.le_of_ble_eq_true rfl) (Nat.le_of_ble_eq_true rfl) ⟨Nat.le_refl _, Nat.le_refl _⟩ ?_
  show xV (j10_asks) X 0 0 (hM c_thrown c_told c_read c_many c_eights c_gains c_notes c_seen c_turns c_drawn c_state c_tape c_taped c_size c_from c_next c_token c_value c_fault c_number c_fives c_isLeft c_wentTimes c_goes c_isLeftLaid c_game c_rows c_columns c_isFound c_bestValue c_bestBelow c_bestShare c_share v149.2 c_system c_shares c_allShares) 152 [(0, .ref 0), (1, .int x1), (3, .int x3)] [.long v149.1]
  refine xV_lstore (L' := [(4, .long v149.1), (0, .ref 0), (1, .int x1), (3, .int x3)]) 154 rfl dX10_asks_152 (xlt rfl) rfl ?_
  refine xV_lload 156 rfl dX10_asks_154 0 rfl ?_
  refine xV_lconst (v := 0) 157 rfl dX10_asks_156 (by decide) ?_
  refine xV_lcmp 158 rfl dX10_asks_157 ?_
  refine xV_if_ne (tgt := 162) 161 rfl dX10_asks_158 (by decide) (fun h158 => ?_) (fun h158 => ?_)
  · have hf := xif_f hf h158
    refine xV_lload 164 rfl dX10_asks_162 0 rfl ?_
    refine xV_lconst (v := 0) 165 rfl dX10_asks_164 (by decide) ?_
    refine xV_lcmp 166 rfl dX10_asks_165 ?_
    refine xV_if_le (tgt := 173) 169 rfl dX10_asks_166 (by decide) (fun h166 => ?_) (fun h166 => ?_)
    · have hf := xif_t hf h166
      refine xV_ldc2 176 rfl dX10_asks_173 q10_231 ?_
      refine xV_sub [1, 2, 3, 0] rfl ?_
      exact T10_asks_b176 hX hf
    · have hf := xif_f hf h166
      refine xV_lconst (v := 1) 170 rfl dX10_asks_169 (by decide) ?_
      refine xV_goto (tgt := 176) dX10_asks_170 (by decide) ?_
      refine xV_sub [1, 2, 3, 0] rfl ?_
      exact T10_asks_b176 hX hf
  · have hf := xif_t hf h158
    obtain rfl := Option.some.inj hf
    exact xV_vret hX dX10_asks_161 (Nat.zero_le _) (Nat.zero_le _)
def F10_asks_b137 (z : Nat) (x1 : Int32) (x3 : Int32) (x4 : Int32) (s1 : Int32) (s2 : Int64) (c_game : (Nat → Int32)) (c_rows : Int32) (c_columns : Int32) (c_isFound : Int32) (c_bestValue : Int64) (c_bestBelow : Int64) (c_bestShare : (Nat → Int64)) (c_share : (Nat → Int64)) (c_matrix : (Nat → Int64)) (c_system : (Nat → Int64)) (k109 : Int32 → Int32 → Int32 → (Nat → Int32) → Int32 → Int32 → Int32 → Int64 → Int64 → (Nat → Int64) → (Nat → Int64) → (Nat → Int64) → (Nat → Int64) → Option (Int32 × Int64 × Int64 × (Nat → Int64) × (Nat → Int64) × (Nat → Int64) × (Nat → Int64))) : Option (Int32 × Int64 × Int64 × (Nat → Int64) × (Nat → Int64) × (Nat → Int64) × (Nat → Int64)) :=
  xg (xin s1 64) (k109 x1 x3 (x4 + (1 : Int32)) c_game c_rows c_columns c_isFound c_bestValue c_bestBelow c_bestShare c_share c_matrix (vp_updL c_system (xn s1) s2))
theorem T10_asks_b137 {X : xX} {c_thrown : Int32} {c_told : (Nat → Int32)} {c_read : (Nat → Int32)} {c_many : (Nat → Int32)} {c_eights : (Nat → Int32)} {c_gains : (Nat → Int32)} {c_notes : (Nat → Int32)} {c_seen : (Nat → Int32)} {c_turns : (Nat → Int32)} {c_drawn : (Nat → Int32)} {c_state : Int32} {c_tape : (Nat → Int32)} {c_taped : Int32} {c_size : Int32} {c_from : Int32} {c_next : Int32} {c_token : Int32} {c_value : Int32} {c_fault : Int32} {c_number : Int32} {c_fives : (Nat → Int32)} {c_isLeft : (Nat → Int32)} {c_wentTimes : Int32} {c_goes : (Nat → Int32)} {c_isLeftLaid : Int32} {c_shares : (Nat → Int32)} {c_allShares : Int32} {x1 : Int32} {x3 : Int32} {x4 : Int32} {s1 : Int32} {s2 : Int64} {c_game : (Nat → Int32)} {c_rows : Int32} {c_columns : Int32} {c_isFound : Int32} {c_bestValue : Int64} {c_bestBelow : Int64} {c_bestShare : (Nat → Int64)} {c_share : (Nat → Int64)} {c_matrix : (Nat → Int64)} {c_system : (Nat → Int64)} {z : Nat} {v : Int32 × Int64 × Int64 × (Nat → Int64) × (Nat → Int64) × (Nat → Int64) × (Nat → Int64)} {k109 : Int32 → Int32 → Int32 → (Nat → Int32) → Int32 → Int32 → Int32 → Int64 → Int64 → (Nat → Int64) → (Nat → Int64) → (Nat → Int64) → (Nat → Int64) → Option (Int32 × Int64 × Int64 × (Nat → Int64) × (Nat → Int64) × (Nat → Int64) × (Nat → Int64))} (hX : xIs (j10_asks) X none none (hM c_thrown c_told c_read c_many c_eights c_gains c_notes c_seen c_turns c_drawn c_state c_tape c_taped c_size c_from c_next c_token c_value c_fault c_number c_fives c_isLeft c_wentTimes c_goes c_isLeftLaid c_game c_rows c_columns v.1 v.2.1 v.2.2.1 v.2.2.2.1 v.2.2.2.2.1 v.2.2.2.2.2.1 v.2.2.2.2.2.2 c_shares c_allShares)) (hk109 : ∀ {x1 : Int32} {x3 : Int32} {x4 : Int32} {c_isFound : Int32} {c_bestValue : Int64} {c_bestBelow : Int64} {c_bestShare : (Nat → Int64)} {c_share : (Nat → Int64)} {c_matrix : (Nat → Int64)} {c_system : (Nat → Int64)}, k109 x1 x3 x4 c_game c_rows c_columns c_isFound c_bestValue c_bestBelow c_bestShare c_share c_matrix c_system = some v → xV (j10_asks) X 0 0 (hM c_thrown c_told c_read c_many c_eights c_gains c_notes c_seen c_turns c_drawn c_state c_tape c_taped c_size c_from c_next c_token c_value c_fault c_number c_fives c_isLeft c_wentTimes c_goes c_isLeftLaid c_game c_rows c_columns c_isFound c_bestValue c_bestBelow c_bestShare c_share c_matrix c_system c_shares c_allShares) 109 [(0, .ref 0), (1, .int x1), (3, .int x3), (4, .int x4)] []) (hf : F10_asks_b137 z x1 x3 x4 s1 s2 c_game c_rows c_columns c_isFound c_bestValue c_bestBelow c_bestShare c_share c_matrix c_system k109 = some v) : xV (j10_asks) X 0 0 (hM c_thrown c_told c_read c_many c_eights c_gains c_notes c_seen c_turns c_drawn c_state c_tape c_taped c_size c_from c_next c_token c_value c_fault c_number c_fives c_isLeft c_wentTimes c_goes c_isLeftLaid c_game c_rows c_columns c_isFound c_bestValue c_bestBelow c_bestShare c_share c_matrix c_system c_shares c_allShares) 137 [(0, .ref 0), (1, .int x1), (3, .int x3), (4, .int x4)] [.long s2, .int s1, .ref 18] := by
  unfold F10_asks_b137 at hf
  obtain ⟨hg137, hf⟩ := xg_s hf
  refine xV_lastore (h' := (hM c_thrown c_told c_read c_many c_eights c_gains c_notes c_seen c_turns c_drawn c_state c_tape c_taped c_size c_from c_next c_token c_value c_fault c_number c_fives c_isLeft c_wentTimes c_goes c_isLeftLaid c_game c_rows c_columns c_isFound c_bestValue c_bestBelow c_bestShare c_share c_matrix (vp_updL c_system (xn s1) s2) c_shares c_allShares)) 138 rfl dX10_asks_137 rfl (xin_ok hg137) rfl rfl ?_
  refine xV_iinc (L' := [(4, .int (x4 + (1 : Int32))), (0, .ref 0), (1, .int x1), (3, .int x3)]) 141 rfl dX10_asks_138 3 rfl (xk_inc xk_i1) (xlt rfl) rfl ?_
  refine xV_goto (tgt := 109) dX10_asks_141 (by decide) ?_
  refine xV_sub [1, 2, 3, 0] rfl ?_
  exact hk109 hf
def F10_asks_b109 (z : Nat) (w : Nat) (x1 : Int32) (x3 : Int32) (x4 : Int32) (c_game : (Nat → Int32)) (c_rows : Int32) (c_columns : Int32) (c_isFound : Int32) (c_bestValue : Int64) (c_bestBelow : Int64) (c_bestShare : (Nat → Int64)) (c_share : (Nat → Int64)) (c_matrix : (Nat → Int64)) (c_system : (Nat → Int64)) : Option (Int32 × Int64 × Int64 × (Nat → Int64) × (Nat → Int64) × (Nat → Int64) × (Nat → Int64)) := match w with
  | 0 => none
  | w + 1 => if x3 < x4 then (F10_asks_b144 z x1 x3 c_game c_rows c_columns c_isFound c_bestValue c_bestBelow c_bestShare c_share c_matrix c_system) else (if x3 ≤ x4 then (F10_asks_b137 z x1 x3 x4 (((8 : Int32) * x3) + x4) (0 : Int64) c_game c_rows c_columns c_isFound c_bestValue c_bestBelow c_bestShare c_share c_matrix c_system (fun q0 q1 q2 q3 q4 q5 q6 q7 q8 q9 q10 q11 q12 => F10_asks_b109 z w q0 q1 q2 q3 q4 q5 q6 q7 q8 q9 q10 q11 q12)) else (F10_asks_b137 z x1 x3 x4 (((8 : Int32) * x3) + x4) (1 : Int64) c_game c_rows c_columns c_isFound c_bestValue c_bestBelow c_bestShare c_share c_matrix c_system (fun q0 q1 q2 q3 q4 q5 q6 q7 q8 q9 q10 q11 q12 => F10_asks_b109 z w q0 q1 q2 q3 q4 q5 q6 q7 q8 q9 q10 q11 q12)))
theorem T10_asks_b109 {X : xX} {c_thrown : Int32} {c_told : (Nat → Int32)} {c_read : (Nat → Int32)} {c_many : (Nat → Int32)} {c_eights : (Nat → Int32)} {c_gains : (Nat → Int32)} {c_notes : (Nat → Int32)} {c_seen : (Nat → Int32)} {c_turns : (Nat → Int32)} {c_drawn : (Nat → Int32)} {c_state : Int32} {c_tape : (Nat → Int32)} {c_taped : Int32} {c_size : Int32} {c_from : Int32} {c_next : Int32} {c_token : Int32} {c_value : Int32} {c_fault : Int32} {c_number : Int32} {c_fives : (Nat → Int32)} {c_isLeft : (Nat → Int32)} {c_wentTimes : Int32} {c_goes : (Nat → Int32)} {c_isLeftLaid : Int32} {c_game : (Nat → Int32)} {c_rows : Int32} {c_columns : Int32} {c_shares : (Nat → Int32)} {c_allShares : Int32} {z : Nat} {v : Int32 × Int64 × Int64 × (Nat → Int64) × (Nat → Int64) × (Nat → Int64) × (Nat → Int64)} (hX : xIs (j10_asks) X none none (hM c_thrown c_told c_read c_many c_eights c_gains c_notes c_seen c_turns c_drawn c_state c_tape c_taped c_size c_from c_next c_token c_value c_fault c_number c_fives c_isLeft c_wentTimes c_goes c_isLeftLaid c_game c_rows c_columns v.1 v.2.1 v.2.2.1 v.2.2.2.1 v.2.2.2.2.1 v.2.2.2.2.2.1 v.2.2.2.2.2.2 c_shares c_allShares)) : ∀ (w : Nat) {x1 : Int32} {x3 : Int32} {x4 : Int32} {c_isFound : Int32} {c_bestValue : Int64} {c_bestBelow : Int64} {c_bestShare : (Nat → Int64)} {c_share : (Nat → Int64)} {c_matrix : (Nat → Int64)} {c_system : (Nat → Int64)}, F10_asks_b109 z w x1 x3 x4 c_game c_rows c_columns c_isFound c_bestValue c_bestBelow c_bestShare c_share c_matrix c_system = some v → xV (j10_asks) X 0 0 (hM c_thrown c_told c_read c_many c_eights c_gains c_notes c_seen c_turns c_drawn c_state c_tape c_taped c_size c_from c_next c_token c_value c_fault c_number c_fives c_isLeft c_wentTimes c_goes c_isLeftLaid c_game c_rows c_columns c_isFound c_bestValue c_bestBelow c_bestShare c_share c_matrix c_system c_shares c_allShares) 109 [(0, .ref 0), (1, .int x1), (3, .int x3), (4, .int x4)] [] := by
  intro w
  induction w with
  | zero => intro x1 x3 x4 c_isFound c_bestValue c_bestBelow c_bestShare c_share c_matrix c_system hf; cases hf
  | succ w ih =>
    intro x1 x3 x4 c_isFound c_bestValue c_bestBelow c_bestShare c_share c_matrix c_system hf
    unfold F10_asks_b109 at hf
    refine xV_iload 111 rfl dX10_asks_109 3 rfl ?_
    refine xV_iload_n 112 rfl dX10_asks_111 rfl 2 rfl ?_
    refine xV_icmp_gt (tgt := 144) 115 rfl dX10_asks_112 (by decide) (fun h112 => ?_) (fun h112 => ?_)
    · have hf := xif_t hf h112
      refine xV_sub [0, 1, 2] rfl ?_
      exact T10_asks_b144 hX hf
    · have hf := xif_f hf h112
      refine xV_aload_n 116 rfl dX10_asks_115 rfl 0 rfl ?_
      refine xV_get (v := .ref 18) 119 rfl dX10_asks_116 f10_73 rfl rfl ?_
      refine xV_bipush 121 rfl dX10_asks_119 xk_b8 ?_
      refine xV_iload_n 122 rfl dX10_asks_121 rfl 2 rfl ?_
      refine xV_imul 123 rfl dX10_asks_122 ?_
      refine xV_iload 125 rfl dX10_asks_123 3 rfl ?_
      refine xV_iadd 126 rfl dX10_asks_125 ?_
      refine xV_iload 128 rfl dX10_asks_126 3 rfl ?_
      refine xV_iload_n 129 rfl dX10_asks_128 rfl 2 rfl ?_
      refine xV_icmp_ge (tgt := 136) 132 rfl dX10_asks_129 (by decide) (fun h129 => ?_) (fun h129 => ?_)
      · have hf := xif_t hf h129
        refine xV_lconst (v := 0) 137 rfl dX10_asks_136 (by decide) ?_
        exact T10_asks_b137 hX (fun {_ _ _ _ _ _ _ _ _ _} hq => ih hq) hf
      · have hf := xif_f hf h129
        refine xV_lconst (v := 1) 133 rfl dX10_asks_132 (by decide) ?_
        refine xV_goto (tgt := 137) dX10_asks_133 (by decide) ?_
        exact T10_asks_b137 hX (fun {_ _ _ _ _ _ _ _ _ _} hq => ih hq) hf
def F10_asks_b106 (z : Nat) (x1 : Int32) (x3 : Int32) (c_game : (Nat → Int32)) (c_rows : Int32) (c_columns : Int32) (c_isFound : Int32) (c_bestValue : Int64) (c_bestBelow : Int64) (c_bestShare : (Nat → Int64)) (c_share : (Nat → Int64)) (c_matrix : (Nat → Int64)) (c_system : (Nat → Int64)) : Option (Int32 × Int64 × Int64 × (Nat → Int64) × (Nat → Int64) × (Nat → Int64) × (Nat → Int64)) :=
  F10_asks_b109 z z x1 x3 (0 : Int32) c_game c_rows c_columns c_isFound c_bestValue c_bestBelow c_bestShare c_share c_matrix c_system
theorem T10_asks_b106 {X : xX} {c_thrown : Int32} {c_told : (Nat → Int32)} {c_read : (Nat → Int32)} {c_many : (Nat → Int32)} {c_eights : (Nat → Int32)} {c_gains : (Nat → Int32)} {c_notes : (Nat → Int32)} {c_seen : (Nat → Int32)} {c_turns : (Nat → Int32)} {c_drawn : (Nat → Int32)} {c_state : Int32} {c_tape : (Nat → Int32)} {c_taped : Int32} {c_size : Int32} {c_from : Int32} {c_next : Int32} {c_token : Int32} {c_value : Int32} {c_fault : Int32} {c_number : Int32} {c_fives : (Nat → Int32)} {c_isLeft : (Nat → Int32)} {c_wentTimes : Int32} {c_goes : (Nat → Int32)} {c_isLeftLaid : Int32} {c_shares : (Nat → Int32)} {c_allShares : Int32} {x1 : Int32} {x3 : Int32} {c_game : (Nat → Int32)} {c_rows : Int32} {c_columns : Int32} {c_isFound : Int32} {c_bestValue : Int64} {c_bestBelow : Int64} {c_bestShare : (Nat → Int64)} {c_share : (Nat → Int64)} {c_matrix : (Nat → Int64)} {c_system : (Nat → Int64)} {z : Nat} {v : Int32 × Int64 × Int64 × (Nat → Int64) × (Nat → Int64) × (Nat → Int64) × (Nat → Int64)} (hX : xIs (j10_asks) X none none (hM c_thrown c_told c_read c_many c_eights c_gains c_notes c_seen c_turns c_drawn c_state c_tape c_taped c_size c_from c_next c_token c_value c_fault c_number c_fives c_isLeft c_wentTimes c_goes c_isLeftLaid c_game c_rows c_columns v.1 v.2.1 v.2.2.1 v.2.2.2.1 v.2.2.2.2.1 v.2.2.2.2.2.1 v.2.2.2.2.2.2 c_shares c_allShares)) (hf : F10_asks_b106 z x1 x3 c_game c_rows c_columns c_isFound c_bestValue c_bestBelow c_bestShare c_share c_matrix c_system = some v) : xV (j10_asks) X 0 0 (hM c_thrown c_told c_read c_many c_eights c_gains c_notes c_seen c_turns c_drawn c_state c_tape c_taped c_size c_from c_next c_token c_value c_fault c_number c_fives c_isLeft c_wentTimes c_goes c_isLeftLaid c_game c_rows c_columns c_isFound c_bestValue c_bestBelow c_bestShare c_share c_matrix c_system c_shares c_allShares) 106 [(0, .ref 0), (1, .int x1), (3, .int x3)] [] := by
  unfold F10_asks_b106 at hf
  refine xV_iconst 107 rfl dX10_asks_106 xk_i0 ?_
  refine xV_istore (L' := [(4, .int (0 : Int32)), (0, .ref 0), (1, .int x1), (3, .int x3)]) 109 rfl dX10_asks_107 (xlt rfl) rfl ?_
  refine xV_sub [1, 2, 3, 0] rfl ?_
  exact T10_asks_b109 hX _ hf
def F10_asks_b100 (z : Nat) (x1 : Int32) (x2 : Int32) (x3 : Int32) (x4 : Int32) (c_game : (Nat → Int32)) (c_rows : Int32) (c_columns : Int32) (c_isFound : Int32) (c_bestValue : Int64) (c_bestBelow : Int64) (c_bestShare : (Nat → Int64)) (c_share : (Nat → Int64)) (c_matrix : (Nat → Int64)) (c_system : (Nat → Int64)) (k5 : Int32 → Int32 → Int32 → Int32 → (Nat → Int32) → Int32 → Int32 → Int32 → Int64 → Int64 → (Nat → Int64) → (Nat → Int64) → (Nat → Int64) → (Nat → Int64) → Option (Int32 × Int64 × Int64 × (Nat → Int64) × (Nat → Int64) × (Nat → Int64) × (Nat → Int64))) : Option (Int32 × Int64 × Int64 × (Nat → Int64) × (Nat → Int64) × (Nat → Int64) × (Nat → Int64)) :=
  k5 x1 x2 x3 (x4 + (1 : Int32)) c_game c_rows c_columns c_isFound c_bestValue c_bestBelow c_bestShare c_share c_matrix c_system
theorem T10_asks_b100 {X : xX} {c_thrown : Int32} {c_told : (Nat → Int32)} {c_read : (Nat → Int32)} {c_many : (Nat → Int32)} {c_eights : (Nat → Int32)} {c_gains : (Nat → Int32)} {c_notes : (Nat → Int32)} {c_seen : (Nat → Int32)} {c_turns : (Nat → Int32)} {c_drawn : (Nat → Int32)} {c_state : Int32} {c_tape : (Nat → Int32)} {c_taped : Int32} {c_size : Int32} {c_from : Int32} {c_next : Int32} {c_token : Int32} {c_value : Int32} {c_fault : Int32} {c_number : Int32} {c_fives : (Nat → Int32)} {c_isLeft : (Nat → Int32)} {c_wentTimes : Int32} {c_goes : (Nat → Int32)} {c_isLeftLaid : Int32} {c_shares : (Nat → Int32)} {c_allShares : Int32} {x1 : Int32} {x2 : Int32} {x3 : Int32} {x4 : Int32} {c_game : (Nat → Int32)} {c_rows : Int32} {c_columns : Int32} {c_isFound : Int32} {c_bestValue : Int64} {c_bestBelow : Int64} {c_bestShare : (Nat → Int64)} {c_share : (Nat → Int64)} {c_matrix : (Nat → Int64)} {c_system : (Nat → Int64)} {z : Nat} {v : Int32 × Int64 × Int64 × (Nat → Int64) × (Nat → Int64) × (Nat → Int64) × (Nat → Int64)} {k5 : Int32 → Int32 → Int32 → Int32 → (Nat → Int32) → Int32 → Int32 → Int32 → Int64 → Int64 → (Nat → Int64) → (Nat → Int64) → (Nat → Int64) → (Nat → Int64) → Option (Int32 × Int64 × Int64 × (Nat → Int64) × (Nat → Int64) × (Nat → Int64) × (Nat → Int64))} (hX : xIs (j10_asks) X none none (hM c_thrown c_told c_read c_many c_eights c_gains c_notes c_seen c_turns c_drawn c_state c_tape c_taped c_size c_from c_next c_token c_value c_fault c_number c_fives c_isLeft c_wentTimes c_goes c_isLeftLaid c_game c_rows c_columns v.1 v.2.1 v.2.2.1 v.2.2.2.1 v.2.2.2.2.1 v.2.2.2.2.2.1 v.2.2.2.2.2.2 c_shares c_allShares)) (hk5 : ∀ {x1 : Int32} {x2 : Int32} {x3 : Int32} {x4 : Int32} {c_isFound : Int32} {c_bestValue : Int64} {c_bestBelow : Int64} {c_bestShare : (Nat → Int64)} {c_share : (Nat → Int64)} {c_matrix : (Nat → Int64)} {c_system : (Nat → Int64)}, k5 x1 x2 x3 x4 c_game c_rows c_columns c_isFound c_bestValue c_bestBelow c_bestShare c_share c_matrix c_system = some v → xV (j10_asks) X 0 0 (hM c_thrown c_told c_read c_many c_eights c_gains c_notes c_seen c_turns c_drawn c_state c_tape c_taped c_size c_from c_next c_token c_value c_fault c_number c_fives c_isLeft c_wentTimes c_goes c_isLeftLaid c_game c_rows c_columns c_isFound c_bestValue c_bestBelow c_bestShare c_share c_matrix c_system c_shares c_allShares) 5 [(0, .ref 0), (1, .int x1), (2, .int x2), (3, .int x3), (4, .int x4)] []) (hf : F10_asks_b100 z x1 x2 x3 x4 c_game c_rows c_columns c_isFound c_bestValue c_bestBelow c_bestShare c_share c_matrix c_system k5 = some v) : xV (j10_asks) X 0 0 (hM c_thrown c_told c_read c_many c_eights c_gains c_notes c_seen c_turns c_drawn c_state c_tape c_taped c_size c_from c_next c_token c_value c_fault c_number c_fives c_isLeft c_wentTimes c_goes c_isLeftLaid c_game c_rows c_columns c_isFound c_bestValue c_bestBelow c_bestShare c_share c_matrix c_system c_shares c_allShares) 100 [(0, .ref 0), (1, .int x1), (2, .int x2), (3, .int x3), (4, .int x4)] [] := by
  unfold F10_asks_b100 at hf
  refine xV_iinc (L' := [(4, .int (x4 + (1 : Int32))), (0, .ref 0), (1, .int x1), (2, .int x2), (3, .int x3)]) 103 rfl dX10_asks_100 4 rfl (xk_inc xk_i1) (xlt rfl) rfl ?_
  refine xV_goto (tgt := 5) dX10_asks_103 (by decide) ?_
  refine xV_sub [1, 2, 3, 4, 0] rfl ?_
  exact hk5 hf
def F10_asks_b82 (z : Nat) (x1 : Int32) (x2 : Int32) (x3 : Int32) (x4 : Int32) (x5 : Int32) (c_game : (Nat → Int32)) (c_rows : Int32) (c_columns : Int32) (c_isFound : Int32) (c_bestValue : Int64) (c_bestBelow : Int64) (c_bestShare : (Nat → Int64)) (c_share : (Nat → Int64)) (c_matrix : (Nat → Int64)) (c_system : (Nat → Int64)) (k5 : Int32 → Int32 → Int32 → Int32 → (Nat → Int32) → Int32 → Int32 → Int32 → Int64 → Int64 → (Nat → Int64) → (Nat → Int64) → (Nat → Int64) → (Nat → Int64) → Option (Int32 × Int64 × Int64 × (Nat → Int64) × (Nat → Int64) × (Nat → Int64) × (Nat → Int64))) : Option (Int32 × Int64 × Int64 × (Nat → Int64) × (Nat → Int64) × (Nat → Int64) × (Nat → Int64)) :=
  xg (xin (((8 : Int32) * x3) + x5) 64) (F10_asks_b100 z x1 x2 (x3 + (1 : Int32)) x4 c_game c_rows c_columns c_isFound c_bestValue c_bestBelow c_bestShare c_share c_matrix (vp_updL c_system (xn (((8 : Int32) * x3) + x5)) (-1 : Int64)) k5)
theorem T10_asks_b82 {X : xX} {c_thrown : Int32} {c_told : (Nat → Int32)} {c_read : (Nat → Int32)} {c_many : (Nat → Int32)} {c_eights : (Nat → Int32)} {c_gains : (Nat → Int32)} {c_notes : (Nat → Int32)} {c_seen : (Nat → Int32)} {c_turns : (Nat → Int32)} {c_drawn : (Nat → Int32)} {c_state : Int32} {c_tape : (Nat → Int32)} {c_taped : Int32} {c_size : Int32} {c_from : Int32} {c_next : Int32} {c_token : Int32} {c_value : Int32} {c_fault : Int32} {c_number : Int32} {c_fives : (Nat → Int32)} {c_isLeft : (Nat → Int32)} {c_wentTimes : Int32} {c_goes : (Nat → Int32)} {c_isLeftLaid : Int32} {c_shares : (Nat → Int32)} {c_allShares : Int32} {x1 : Int32} {x2 : Int32} {x3 : Int32} {x4 : Int32} {x5 : Int32} {c_game : (Nat → Int32)} {c_rows : Int32} {c_columns : Int32} {c_isFound : Int32} {c_bestValue : Int64} {c_bestBelow : Int64} {c_bestShare : (Nat → Int64)} {c_share : (Nat → Int64)} {c_matrix : (Nat → Int64)} {c_system : (Nat → Int64)} {z : Nat} {v : Int32 × Int64 × Int64 × (Nat → Int64) × (Nat → Int64) × (Nat → Int64) × (Nat → Int64)} {k5 : Int32 → Int32 → Int32 → Int32 → (Nat → Int32) → Int32 → Int32 → Int32 → Int64 → Int64 → (Nat → Int64) → (Nat → Int64) → (Nat → Int64) → (Nat → Int64) → Option (Int32 × Int64 × Int64 × (Nat → Int64) × (Nat → Int64) × (Nat → Int64) × (Nat → Int64))} (hX : xIs (j10_asks) X none none (hM c_thrown c_told c_read c_many c_eights c_gains c_notes c_seen c_turns c_drawn c_state c_tape c_taped c_size c_from c_next c_token c_value c_fault c_number c_fives c_isLeft c_wentTimes c_goes c_isLeftLaid c_game c_rows c_columns v.1 v.2.1 v.2.2.1 v.2.2.2.1 v.2.2.2.2.1 v.2.2.2.2.2.1 v.2.2.2.2.2.2 c_shares c_allShares)) (hk5 : ∀ {x1 : Int32} {x2 : Int32} {x3 : Int32} {x4 : Int32} {c_isFound : Int32} {c_bestValue : Int64} {c_bestBelow : Int64} {c_bestShare : (Nat → Int64)} {c_share : (Nat → Int64)} {c_matrix : (Nat → Int64)} {c_system : (Nat → Int64)}, k5 x1 x2 x3 x4 c_game c_rows c_columns c_isFound c_bestValue c_bestBelow c_bestShare c_share c_matrix c_system = some v → xV (j10_asks) X 0 0 (hM c_thrown c_told c_read c_many c_eights c_gains c_notes c_seen c_turns c_drawn c_state c_tape c_taped c_size c_from c_next c_token c_value c_fault c_number c_fives c_isLeft c_wentTimes c_goes c_isLeftLaid c_game c_rows c_columns c_isFound c_bestValue c_bestBelow c_bestShare c_share c_matrix c_system c_shares c_allShares) 5 [(0, .ref 0), (1, .int x1), (2, .int x2), (3, .int x3), (4, .int x4)] []) (hf : F10_asks_b82 z x1 x2 x3 x4 x5 c_game c_rows c_columns c_isFound c_bestValue c_bestBelow c_bestShare c_share c_matrix c_system k5 = some v) : xV (j10_asks) X 0 0 (hM c_thrown c_told c_read c_many c_eights c_gains c_notes c_seen c_turns c_drawn c_state c_tape c_taped c_size c_from c_next c_token c_value c_fault c_number c_fives c_isLeft c_wentTimes c_goes c_isLeftLaid c_game c_rows c_columns c_isFound c_bestValue c_bestBelow c_bestShare c_share c_matrix c_system c_shares c_allShares) 82 [(0, .ref 0), (1, .int x1), (2, .int x2), (3, .int x3), (4, .int x4), (5, .int x5)] [] := by
  unfold F10_asks_b82 at hf
  refine xV_aload_n 83 rfl dX10_asks_82 rfl 0 rfl ?_
  refine xV_get (v := .ref 18) 86 rfl dX10_asks_83 f10_73 rfl rfl ?_
  refine xV_bipush 88 rfl dX10_asks_86 xk_b8 ?_
  refine xV_iload_n 89 rfl dX10_asks_88 rfl 3 rfl ?_
  refine xV_imul 90 rfl dX10_asks_89 ?_
  refine xV_iload 92 rfl dX10_asks_90 5 rfl ?_
  refine xV_iadd 93 rfl dX10_asks_92 ?_
  refine xV_ldc2 96 rfl dX10_asks_93 q10_231 ?_
  obtain ⟨hg96, hf⟩ := xg_s hf
  refine xV_lastore (h' := (hM c_thrown c_told c_read c_many c_eights c_gains c_notes c_seen c_turns c_drawn c_state c_tape c_taped c_size c_from c_next c_token c_value c_fault c_number c_fives c_isLeft c_wentTimes c_goes c_isLeftLaid c_game c_rows c_columns c_isFound c_bestValue c_bestBelow c_bestShare c_share c_matrix (vp_updL c_system (xn (((8 : Int32) * x3) + x5)) (-1 : Int64)) c_shares c_allShares)) 97 rfl dX10_asks_96 rfl (xin_ok hg96) rfl rfl ?_
  refine xV_iinc (L' := [(3, .int (x3 + (1 : Int32))), (0, .ref 0), (1, .int x1), (2, .int x2), (4, .int x4), (5, .int x5)]) 100 rfl dX10_asks_97 3 rfl (xk_inc xk_i1) (xlt rfl) rfl ?_
  refine xV_sub [1, 2, 3, 0, 4] rfl ?_
  exact T10_asks_b100 hX hk5 hf
def F10_asks_b76 (z : Nat) (x1 : Int32) (x2 : Int32) (x3 : Int32) (x4 : Int32) (x5 : Int32) (x6 : Int32) (c_game : (Nat → Int32)) (c_rows : Int32) (c_columns : Int32) (c_isFound : Int32) (c_bestValue : Int64) (c_bestBelow : Int64) (c_bestShare : (Nat → Int64)) (c_share : (Nat → Int64)) (c_matrix : (Nat → Int64)) (c_system : (Nat → Int64)) (k5 : Int32 → Int32 → Int32 → Int32 → (Nat → Int32) → Int32 → Int32 → Int32 → Int64 → Int64 → (Nat → Int64) → (Nat → Int64) → (Nat → Int64) → (Nat → Int64) → Option (Int32 × Int64 × Int64 × (Nat → Int64) × (Nat → Int64) × (Nat → Int64) × (Nat → Int64))) (k29 : Int32 → Int32 → Int32 → Int32 → Int32 → Int32 → (Nat → Int32) → Int32 → Int32 → Int32 → Int64 → Int64 → (Nat → Int64) → (Nat → Int64) → (Nat → Int64) → (Nat → Int64) → Option (Int32 × Int64 × Int64 × (Nat → Int64) × (Nat → Int64) × (Nat → Int64) × (Nat → Int64))) : Option (Int32 × Int64 × Int64 × (Nat → Int64) × (Nat → Int64) × (Nat → Int64) × (Nat → Int64)) :=
  k29 x1 x2 x3 x4 x5 (x6 + (1 : Int32)) c_game c_rows c_columns c_isFound c_bestValue c_bestBelow c_bestShare c_share c_matrix c_system
theorem T10_asks_b76 {X : xX} {c_thrown : Int32} {c_told : (Nat → Int32)} {c_read : (Nat → Int32)} {c_many : (Nat → Int32)} {c_eights : (Nat → Int32)} {c_gains : (Nat → Int32)} {c_notes : (Nat → Int32)} {c_seen : (Nat → Int32)} {c_turns : (Nat → Int32)} {c_drawn : (Nat → Int32)} {c_state : Int32} {c_tape : (Nat → Int32)} {c_taped : Int32} {c_size : Int32} {c_from : Int32} {c_next : Int32} {c_token : Int32} {c_value : Int32} {c_fault : Int32} {c_number : Int32} {c_fives : (Nat → Int32)} {c_isLeft : (Nat → Int32)} {c_wentTimes : Int32} {c_goes : (Nat → Int32)} {c_isLeftLaid : Int32} {c_shares : (Nat → Int32)} {c_allShares : Int32} {x1 : Int32} {x2 : Int32} {x3 : Int32} {x4 : Int32} {x5 : Int32} {x6 : Int32} {c_game : (Nat → Int32)} {c_rows : Int32} {c_columns : Int32} {c_isFound : Int32} {c_bestValue : Int64} {c_bestBelow : Int64} {c_bestShare : (Nat → Int64)} {c_share : (Nat → Int64)} {c_matrix : (Nat → Int64)} {c_system : (Nat → Int64)} {z : Nat} {v : Int32 × Int64 × Int64 × (Nat → Int64) × (Nat → Int64) × (Nat → Int64) × (Nat → Int64)} {k5 : Int32 → Int32 → Int32 → Int32 → (Nat → Int32) → Int32 → Int32 → Int32 → Int64 → Int64 → (Nat → Int64) → (Nat → Int64) → (Nat → Int64) → (Nat → Int64) → Option (Int32 × Int64 × Int64 × (Nat → Int64) × (Nat → Int64) × (Nat → Int64) × (Nat → Int64))} {k29 : Int32 → Int32 → Int32 → Int32 → Int32 → Int32 → (Nat → Int32) → Int32 → Int32 → Int32 → Int64 → Int64 → (Nat → Int64) → (Nat → Int64) → (Nat → Int64) → (Nat → Int64) → Option (Int32 × Int64 × Int64 × (Nat → Int64) × (Nat → Int64) × (Nat → Int64) × (Nat → Int64))} (hX : xIs (j10_asks) X none none (hM c_thrown c_told c_read c_many c_eights c_gains c_notes c_seen c_turns c_drawn c_state c_tape c_taped c_size c_from c_next c_token c_value c_fault c_number c_fives c_isLeft c_wentTimes c_goes c_isLeftLaid c_game c_rows c_columns v.1 v.2.1 v.2.2.1 v.2.2.2.1 v.2.2.2.2.1 v.2.2.2.2.2.1 v.2.2.2.2.2.2 c_shares c_allShares)) (hk5 : ∀ {x1 : Int32} {x2 : Int32} {x3 : Int32} {x4 : Int32} {c_isFound : Int32} {c_bestValue : Int64} {c_bestBelow : Int64} {c_bestShare : (Nat → Int64)} {c_share : (Nat → Int64)} {c_matrix : (Nat → Int64)} {c_system : (Nat → Int64)}, k5 x1 x2 x3 x4 c_game c_rows c_columns c_isFound c_bestValue c_bestBelow c_bestShare c_share c_matrix c_system = some v → xV (j10_asks) X 0 0 (hM c_thrown c_told c_read c_many c_eights c_gains c_notes c_seen c_turns c_drawn c_state c_tape c_taped c_size c_from c_next c_token c_value c_fault c_number c_fives c_isLeft c_wentTimes c_goes c_isLeftLaid c_game c_rows c_columns c_isFound c_bestValue c_bestBelow c_bestShare c_share c_matrix c_system c_shares c_allShares) 5 [(0, .ref 0), (1, .int x1), (2, .int x2), (3, .int x3), (4, .int x4)] []) (hk29 : ∀ {x1 : Int32} {x2 : Int32} {x3 : Int32} {x4 : Int32} {x5 : Int32} {x6 : Int32} {c_isFound : Int32} {c_bestValue : Int64} {c_bestBelow : Int64} {c_bestShare : (Nat → Int64)} {c_share : (Nat → Int64)} {c_matrix : (Nat → Int64)} {c_system : (Nat → Int64)}, k29 x1 x2 x3 x4 x5 x6 c_game c_rows c_columns c_isFound c_bestValue c_bestBelow c_bestShare c_share c_matrix c_system = some v → xV (j10_asks) X 0 0 (hM c_thrown c_told c_read c_many c_eights c_gains c_notes c_seen c_turns c_drawn c_state c_tape c_taped c_size c_from c_next c_token c_value c_fault c_number c_fives c_isLeft c_wentTimes c_goes c_isLeftLaid c_game c_rows c_columns c_isFound c_bestValue c_bestBelow c_bestShare c_share c_matrix c_system c_shares c_allShares) 29 [(0, .ref 0), (1, .int x1), (2, .int x2), (3, .int x3), (4, .int x4), (5, .int x5), (6, .int x6)] []) (hf : F10_asks_b76 z x1 x2 x3 x4 x5 x6 c_game c_rows c_columns c_isFound c_bestValue c_bestBelow c_bestShare c_share c_matrix c_system k5 k29 = some v) : xV (j10_asks) X 0 0 (hM c_thrown c_told c_read c_many c_eights c_gains c_notes c_seen c_turns c_drawn c_state c_tape c_taped c_size c_from c_next c_token c_value c_fault c_number c_fives c_isLeft c_wentTimes c_goes c_isLeftLaid c_game c_rows c_columns c_isFound c_bestValue c_bestBelow c_bestShare c_share c_matrix c_system c_shares c_allShares) 76 [(0, .ref 0), (1, .int x1), (2, .int x2), (3, .int x3), (4, .int x4), (5, .int x5), (6, .int x6)] [] := by
  unfold F10_asks_b76 at hf
  refine xV_iinc (L' := [(6, .int (x6 + (1 : Int32))), (0, .ref 0), (1, .int x1), (2, .int x2), (3, .int x3), (4, .int x4), (5, .int x5)]) 79 rfl dX10_asks_76 6 rfl (xk_inc xk_i1) (xlt rfl) rfl ?_
  refine xV_goto (tgt := 29) dX10_asks_79 (by decide) ?_
  refine xV_sub [1, 2, 3, 4, 5, 6, 0] rfl ?_
  exact hk29 hf
def F10_asks_b29 (z : Nat) (w : Nat) (x1 : Int32) (x2 : Int32) (x3 : Int32) (x4 : Int32) (x5 : Int32) (x6 : Int32) (c_game : (Nat → Int32)) (c_rows : Int32) (c_columns : Int32) (c_isFound : Int32) (c_bestValue : Int64) (c_bestBelow : Int64) (c_bestShare : (Nat → Int64)) (c_share : (Nat → Int64)) (c_matrix : (Nat → Int64)) (c_system : (Nat → Int64)) (k5 : Int32 → Int32 → Int32 → Int32 → (Nat → Int32) → Int32 → Int32 → Int32 → Int64 → Int64 → (Nat → Int64) → (Nat → Int64) → (Nat → Int64) → (Nat → Int64) → Option (Int32 × Int64 × Int64 × (Nat → Int64) × (Nat → Int64) × (Nat → Int64) × (Nat → Int64))) : Option (Int32 × Int64 × Int64 × (Nat → Int64) × (Nat → Int64) × (Nat → Int64) × (Nat → Int64)) := match w with
  | 0 => none
  | w + 1 => if c_rows ≤ x6 then (F10_asks_b82 z x1 x2 x3 x4 x5 c_game c_rows c_columns c_isFound c_bestValue c_bestBelow c_bestShare c_share c_matrix c_system k5) else ((F10_has x1 x6).bind (fun v41 => if v41 = 0 then (F10_asks_b76 z x1 x2 x3 x4 x5 x6 c_game c_rows c_columns c_isFound c_bestValue c_bestBelow c_bestShare c_share c_matrix c_system k5 (fun q0 q1 q2 q3 q4 q5 q6 q7 q8 q9 q10 q11 q12 q13 q14 q15 => F10_asks_b29 z w q0 q1 q2 q3 q4 q5 q6 q7 q8 q9 q10 q11 q12 q13 q14 q15 k5)) else (xg (xin (((8 : Int32) * x6) + x4) 64) (xg (xin (((8 : Int32) * x3) + x5) 64) (F10_asks_b76 z x1 x2 x3 x4 (x5 + (1 : Int32)) x6 c_game c_rows c_columns c_isFound c_bestValue c_bestBelow c_bestShare c_share c_matrix (vp_updL c_system (xn (((8 : Int32) * x3) + x5)) ((c_game (xn (((8 : Int32) * x6) + x4)))).toInt64) k5 (fun q0 q1 q2 q3 q4 q5 q6 q7 q8 q9 q10 q11 q12 q13 q14 q15 => F10_asks_b29 z w q0 q1 q2 q3 q4 q5 q6 q7 q8 q9 q10 q11 q12 q13 q14 q15 k5))))))
theorem T10_asks_b29 {X : xX} {c_thrown : Int32} {c_told : (Nat → Int32)} {c_read : (Nat → Int32)} {c_many : (Nat → Int32)} {c_eights : (Nat → Int32)} {c_gains : (Nat → Int32)} {c_notes : (Nat → Int32)} {c_seen : (Nat → Int32)} {c_turns : (Nat → Int32)} {c_drawn : (Nat → Int32)} {c_state : Int32} {c_tape : (Nat → Int32)} {c_taped : Int32} {c_size : Int32} {c_from : Int32} {c_next : Int32} {c_token : Int32} {c_value : Int32} {c_fault : Int32} {c_number : Int32} {c_fives : (Nat → Int32)} {c_isLeft : (Nat → Int32)} {c_wentTimes : Int32} {c_goes : (Nat → Int32)} {c_isLeftLaid : Int32} {c_game : (Nat → Int32)} {c_rows : Int32} {c_columns : Int32} {c_shares : (Nat → Int32)} {c_allShares : Int32} {z : Nat} {v : Int32 × Int64 × Int64 × (Nat → Int64) × (Nat → Int64) × (Nat → Int64) × (Nat → Int64)} {k5 : Int32 → Int32 → Int32 → Int32 → (Nat → Int32) → Int32 → Int32 → Int32 → Int64 → Int64 → (Nat → Int64) → (Nat → Int64) → (Nat → Int64) → (Nat → Int64) → Option (Int32 × Int64 × Int64 × (Nat → Int64) × (Nat → Int64) × (Nat → Int64) × (Nat → Int64))} (hX : xIs (j10_asks) X none none (hM c_thrown c_told c_read c_many c_eights c_gains c_notes c_seen c_turns c_drawn c_state c_tape c_taped c_size c_from c_next c_token c_value c_fault c_number c_fives c_isLeft c_wentTimes c_goes c_isLeftLaid c_game c_rows c_columns v.1 v.2.1 v.2.2.1 v.2.2.2.1 v.2.2.2.2.1 v.2.2.2.2.2.1 v.2.2.2.2.2.2 c_shares c_allShares)) (hk5 : ∀ {x1 : Int32} {x2 : Int32} {x3 : Int32} {x4 : Int32} {c_isFound : Int32} {c_bestValue : Int64} {c_bestBelow : Int64} {c_bestShare : (Nat → Int64)} {c_share : (Nat → Int64)} {c_matrix : (Nat → Int64)} {c_system : (Nat → Int64)}, k5 x1 x2 x3 x4 c_game c_rows c_columns c_isFound c_bestValue c_bestBelow c_bestShare c_share c_matrix c_system = some v → xV (j10_asks) X 0 0 (hM c_thrown c_told c_read c_many c_eights c_gains c_notes c_seen c_turns c_drawn c_state c_tape c_taped c_size c_from c_next c_token c_value c_fault c_number c_fives c_isLeft c_wentTimes c_goes c_isLeftLaid c_game c_rows c_columns c_isFound c_bestValue c_bestBelow c_bestShare c_share c_matrix c_system c_shares c_allShares) 5 [(0, .ref 0), (1, .int x1), (2, .int x2), (3, .int x3), (4, .int x4)] []) : ∀ (w : Nat) {x1 : Int32} {x2 : Int32} {x3 : Int32} {x4 : Int32} {x5 : Int32} {x6 : Int32} {c_isFound : Int32} {c_bestValue : Int64} {c_bestBelow : Int64} {c_bestShare : (Nat → Int64)} {c_share : (Nat → Int64)} {c_matrix : (Nat → Int64)} {c_system : (Nat → Int64)}, F10_asks_b29 z w x1 x2 x3 x4 x5 x6 c_game c_rows c_columns c_isFound c_bestValue c_bestBelow c_bestShare c_share c_matrix c_system k5 = some v → xV (j10_asks) X 0 0 (hM c_thrown c_told c_read c_many c_eights c_gains c_notes c_seen c_turns c_drawn c_state c_tape c_taped c_size c_from c_next c_token c_value c_fault c_number c_fives c_isLeft c_wentTimes c_goes c_isLeftLaid c_game c_rows c_columns c_isFound c_bestValue c_bestBelow c_bestShare c_share c_matrix c_system c_shares c_allShares) 29 [(0, .ref 0), (1, .int x1), (2, .int x2), (3, .int x3), (4, .int x4), (5, .int x5), (6, .int x6)] [] := by
  intro w
  induction w with
  | zero => intro x1 x2 x3 x4 x5 x6 c_isFound c_bestValue c_bestBelow c_bestShare c_share c_matrix c_system hf; cases hf
  | succ w ih =>
    intro x1 x2 x3 x4 x5 x6 c_isFound c_bestValue c_bestBelow c_bestShare c_share c_matrix c_system hf
    unfold F10_asks_b29 at hf
    refine xV_iload 31 rfl dX10_asks_29 6 rfl ?_
    refine xV_aload_n 32 rfl dX10_asks_31 rfl 0 rfl ?_
    refine xV_get (v := .int c_rows) 35 rfl dX10_asks_32 f10_253 rfl rfl ?_
    refine xV_icmp_ge (tgt := 82) 38 rfl dX10_asks_35 (by decide) (fun h35 => ?_) (fun h35 => ?_)
    · have hf := xif_t hf h35
      refine xV_sub [0, 1, 2, 3, 4, 5] rfl ?_
      exact T10_asks_b82 hX hk5 hf
    · have hf := xif_f hf h35
      refine xV_iload_n 39 rfl dX10_asks_38 rfl 1 rfl ?_
      refine xV_iload 41 rfl dX10_asks_39 6 rfl ?_
      obtain ⟨v41, hv41, hf⟩ := xb_s hf
      refine xV_st0 (rest := []) 44 rfl dX10_asks_41 rfl (C10_has X.1.2.1 hv41) m10_has s10_has k10_277 rfl (Nat.le_of_ble_eq_true rfl) (Nat.le_of_ble_eq_true rfl) (Nat.le_of_ble_eq_true rfl) ⟨Nat.le_refl _, Nat.le_refl _⟩ ?_
      show xV (j10_asks) X 0 0 (hM c_thrown c_told c_read c_many c_eights c_gains c_notes c_seen c_turns c_drawn c_state c_tape c_taped c_size c_from c_next c_token c_value c_fault c_number c_fives c_isLeft c_wentTimes c_goes c_isLeftLaid c_game c_rows c_columns c_isFound c_bestValue c_bestBelow c_bestShare c_share c_matrix c_system c_shares c_allShares) 44 [(0, .ref 0), (1, .int x1), (2, .int x2), (3, .int x3), (4, .int x4), (5, .int x5), (6, .int x6)] [.int v41]
      refine xV_if_eq (tgt := 76) 47 rfl dX10_asks_44 (by decide) (fun h44 => ?_) (fun h44 => ?_)
      · have hf := xif_t hf h44
        exact T10_asks_b76 hX hk5 (fun {_ _ _ _ _ _ _ _ _ _ _ _ _} hq => ih hq) hf
      · have hf := xif_f hf h44
        refine xV_aload_n 48 rfl dX10_asks_47 rfl 0 rfl ?_
        refine xV_get (v := .ref 18) 51 rfl dX10_asks_48 f10_73 rfl rfl ?_
        refine xV_bipush 53 rfl dX10_asks_51 xk_b8 ?_
        refine xV_iload_n 54 rfl dX10_asks_53 rfl 3 rfl ?_
        refine xV_imul 55 rfl dX10_asks_54 ?_
        refine xV_iload 57 rfl dX10_asks_55 5 rfl ?_
        refine xV_iadd 58 rfl dX10_asks_57 ?_
        refine xV_aload_n 59 rfl dX10_asks_58 rfl 0 rfl ?_
        refine xV_get (v := .ref 14) 62 rfl dX10_asks_59 f10_60 rfl rfl ?_
        refine xV_bipush 64 rfl dX10_asks_62 xk_b8 ?_
        refine xV_iload 66 rfl dX10_asks_64 6 rfl ?_
        refine xV_imul 67 rfl dX10_asks_66 ?_
        refine xV_iload 69 rfl dX10_asks_67 4 rfl ?_
        refine xV_iadd 70 rfl dX10_asks_69 ?_
        obtain ⟨hg70, hf⟩ := xg_s hf
        refine xV_iaload 71 rfl dX10_asks_70 rfl (xin_ok hg70) rfl ?_
        refine xV_i2l 72 rfl dX10_asks_71 ?_
        obtain ⟨hg72, hf⟩ := xg_s hf
        refine xV_lastore (h' := (hM c_thrown c_told c_read c_many c_eights c_gains c_notes c_seen c_turns c_drawn c_state c_tape c_taped c_size c_from c_next c_token c_value c_fault c_number c_fives c_isLeft c_wentTimes c_goes c_isLeftLaid c_game c_rows c_columns c_isFound c_bestValue c_bestBelow c_bestShare c_share c_matrix (vp_updL c_system (xn (((8 : Int32) * x3) + x5)) ((c_game (xn (((8 : Int32) * x6) + x4)))).toInt64) c_shares c_allShares)) 73 rfl dX10_asks_72 rfl (xin_ok hg72) rfl rfl ?_
        refine xV_iinc (L' := [(5, .int (x5 + (1 : Int32))), (0, .ref 0), (1, .int x1), (2, .int x2), (3, .int x3), (4, .int x4), (6, .int x6)]) 76 rfl dX10_asks_73 5 rfl (xk_inc xk_i1) (xlt rfl) rfl ?_
        refine xV_sub [1, 2, 3, 4, 5, 0, 6] rfl ?_
        exact T10_asks_b76 hX hk5 (fun {_ _ _ _ _ _ _ _ _ _ _ _ _} hq => ih hq) hf
def F10_asks_b5 (z : Nat) (w : Nat) (x1 : Int32) (x2 : Int32) (x3 : Int32) (x4 : Int32) (c_game : (Nat → Int32)) (c_rows : Int32) (c_columns : Int32) (c_isFound : Int32) (c_bestValue : Int64) (c_bestBelow : Int64) (c_bestShare : (Nat → Int64)) (c_share : (Nat → Int64)) (c_matrix : (Nat → Int64)) (c_system : (Nat → Int64)) : Option (Int32 × Int64 × Int64 × (Nat → Int64) × (Nat → Int64) × (Nat → Int64) × (Nat → Int64)) := match w with
  | 0 => none
  | w + 1 => if c_columns ≤ x4 then (F10_asks_b106 z x1 x3 c_game c_rows c_columns c_isFound c_bestValue c_bestBelow c_bestShare c_share c_matrix c_system) else ((F10_has x2 x4).bind (fun v17 => if v17 = 0 then (F10_asks_b100 z x1 x2 x3 x4 c_game c_rows c_columns c_isFound c_bestValue c_bestBelow c_bestShare c_share c_matrix c_system (fun q0 q1 q2 q3 q4 q5 q6 q7 q8 q9 q10 q11 q12 q13 => F10_asks_b5 z w q0 q1 q2 q3 q4 q5 q6 q7 q8 q9 q10 q11 q12 q13)) else (F10_asks_b29 z z x1 x2 x3 x4 (0 : Int32) (0 : Int32) c_game c_rows c_columns c_isFound c_bestValue c_bestBelow c_bestShare c_share c_matrix c_system (fun q0 q1 q2 q3 q4 q5 q6 q7 q8 q9 q10 q11 q12 q13 => F10_asks_b5 z w q0 q1 q2 q3 q4 q5 q6 q7 q8 q9 q10 q11 q12 q13))))
theorem T10_asks_b5 {X : xX} {c_thrown : Int32} {c_told : (Nat → Int32)} {c_read : (Nat → Int32)} {c_many : (Nat → Int32)} {c_eights : (Nat → Int32)} {c_gains : (Nat → Int32)} {c_notes : (Nat → Int32)} {c_seen : (Nat → Int32)} {c_turns : (Nat → Int32)} {c_drawn : (Nat → Int32)} {c_state : Int32} {c_tape : (Nat → Int32)} {c_taped : Int32} {c_size : Int32} {c_from : Int32} {c_next : Int32} {c_token : Int32} {c_value : Int32} {c_fault : Int32} {c_number : Int32} {c_fives : (Nat → Int32)} {c_isLeft : (Nat → Int32)} {c_wentTimes : Int32} {c_goes : (Nat → Int32)} {c_isLeftLaid : Int32} {c_game : (Nat → Int32)} {c_rows : Int32} {c_columns : Int32} {c_shares : (Nat → Int32)} {c_allShares : Int32} {z : Nat} {v : Int32 × Int64 × Int64 × (Nat → Int64) × (Nat → Int64) × (Nat → Int64) × (Nat → Int64)} (hX : xIs (j10_asks) X none none (hM c_thrown c_told c_read c_many c_eights c_gains c_notes c_seen c_turns c_drawn c_state c_tape c_taped c_size c_from c_next c_token c_value c_fault c_number c_fives c_isLeft c_wentTimes c_goes c_isLeftLaid c_game c_rows c_columns v.1 v.2.1 v.2.2.1 v.2.2.2.1 v.2.2.2.2.1 v.2.2.2.2.2.1 v.2.2.2.2.2.2 c_shares c_allShares)) : ∀ (w : Nat) {x1 : Int32} {x2 : Int32} {x3 : Int32} {x4 : Int32} {c_isFound : Int32} {c_bestValue : Int64} {c_bestBelow : Int64} {c_bestShare : (Nat → Int64)} {c_share : (Nat → Int64)} {c_matrix : (Nat → Int64)} {c_system : (Nat → Int64)}, F10_asks_b5 z w x1 x2 x3 x4 c_game c_rows c_columns c_isFound c_bestValue c_bestBelow c_bestShare c_share c_matrix c_system = some v → xV (j10_asks) X 0 0 (hM c_thrown c_told c_read c_many c_eights c_gains c_notes c_seen c_turns c_drawn c_state c_tape c_taped c_size c_from c_next c_token c_value c_fault c_number c_fives c_isLeft c_wentTimes c_goes c_isLeftLaid c_game c_rows c_columns c_isFound c_bestValue c_bestBelow c_bestShare c_share c_matrix c_system c_shares c_allShares) 5 [(0, .ref 0), (1, .int x1), (2, .int x2), (3, .int x3), (4, .int x4)] [] := by
  intro w
  induction w with
  | zero => intro x1 x2 x3 x4 c_isFound c_bestValue c_bestBelow c_bestShare c_share c_matrix c_system hf; cases hf
  | succ w ih =>
    intro x1 x2 x3 x4 c_isFound c_bestValue c_bestBelow c_bestShare c_share c_matrix c_system hf
    unfold F10_asks_b5 at hf
    refine xV_iload 7 rfl dX10_asks_5 4 rfl ?_
    refine xV_aload_n 8 rfl dX10_asks_7 rfl 0 rfl ?_
    refine xV_get (v := .int c_columns) 11 rfl dX10_asks_8 f10_256 rfl rfl ?_
    refine xV_icmp_ge (tgt := 106) 14 rfl dX10_asks_11 (by decide) (fun h11 => ?_) (fun h11 => ?_)
    · have hf := xif_t hf h11
      refine xV_sub [0, 1, 3] rfl ?_
      exact T10_asks_b106 hX hf
    · have hf := xif_f hf h11
      refine xV_iload_n 15 rfl dX10_asks_14 rfl 2 rfl ?_
      refine xV_iload 17 rfl dX10_asks_15 4 rfl ?_
      obtain ⟨v17, hv17, hf⟩ := xb_s hf
      refine xV_st0 (rest := []) 20 rfl dX10_asks_17 rfl (C10_has X.1.2.1 hv17) m10_has s10_has k10_277 rfl (Nat.le_of_ble_eq_true rfl) (Nat.le_of_ble_eq_true rfl) (Nat.le_of_ble_eq_true rfl) ⟨Nat.le_refl _, Nat.le_refl _⟩ ?_
      show xV (j10_asks) X 0 0 (hM c_thrown c_told c_read c_many c_eights c_gains c_notes c_seen c_turns c_drawn c_state c_tape c_taped c_size c_from c_next c_token c_value c_fault c_number c_fives c_isLeft c_wentTimes c_goes c_isLeftLaid c_game c_rows c_columns c_isFound c_bestValue c_bestBelow c_bestShare c_share c_matrix c_system c_shares c_allShares) 20 [(0, .ref 0), (1, .int x1), (2, .int x2), (3, .int x3), (4, .int x4)] [.int v17]
      refine xV_if_eq (tgt := 100) 23 rfl dX10_asks_20 (by decide) (fun h20 => ?_) (fun h20 => ?_)
      · have hf := xif_t hf h20
        exact T10_asks_b100 hX (fun {_ _ _ _ _ _ _ _ _ _ _} hq => ih hq) hf
      · have hf := xif_f hf h20
        refine xV_iconst 24 rfl dX10_asks_23 xk_i0 ?_
        refine xV_istore (L' := [(5, .int (0 : Int32)), (0, .ref 0), (1, .int x1), (2, .int x2), (3, .int x3), (4, .int x4)]) 26 rfl dX10_asks_24 (xlt rfl) rfl ?_
        refine xV_iconst 27 rfl dX10_asks_26 xk_i0 ?_
        refine xV_istore (L' := [(6, .int (0 : Int32)), (5, .int (0 : Int32)), (0, .ref 0), (1, .int x1), (2, .int x2), (3, .int x3), (4, .int x4)]) 29 rfl dX10_asks_27 (xlt rfl) rfl ?_
        refine xV_sub [2, 3, 4, 5, 6, 1, 0] rfl ?_
        exact T10_asks_b29 hX (fun {_ _ _ _ _ _ _ _ _ _ _} hq => ih hq) _ hf
def F10_asks (z : Nat) (x1 : Int32) (x2 : Int32) (c_game : (Nat → Int32)) (c_rows : Int32) (c_columns : Int32) (c_isFound : Int32) (c_bestValue : Int64) (c_bestBelow : Int64) (c_bestShare : (Nat → Int64)) (c_share : (Nat → Int64)) (c_matrix : (Nat → Int64)) (c_system : (Nat → Int64)) : Option (Int32 × Int64 × Int64 × (Nat → Int64) × (Nat → Int64) × (Nat → Int64) × (Nat → Int64)) :=
  F10_asks_b5 z z x1 x2 (0 : Int32) (0 : Int32) c_game c_rows c_columns c_isFound c_bestValue c_bestBelow c_bestShare c_share c_matrix c_system
theorem T10_asks {X : xX} {z : Nat} {x1 : Int32} {x2 : Int32} {c_game : (Nat → Int32)} {c_rows : Int32} {c_columns : Int32} {c_isFound : Int32} {c_bestValue : Int64} {c_bestBelow : Int64} {c_bestShare : (Nat → Int64)} {c_share : (Nat → Int64)} {c_matrix : (Nat → Int64)} {c_system : (Nat → Int64)} {c_thrown : Int32} {c_told : (Nat → Int32)} {c_read : (Nat → Int32)} {c_many : (Nat → Int32)} {c_eights : (Nat → Int32)} {c_gains : (Nat → Int32)} {c_notes : (Nat → Int32)} {c_seen : (Nat → Int32)} {c_turns : (Nat → Int32)} {c_drawn : (Nat → Int32)} {c_state : Int32} {c_tape : (Nat → Int32)} {c_taped : Int32} {c_size : Int32} {c_from : Int32} {c_next : Int32} {c_token : Int32} {c_value : Int32} {c_fault : Int32} {c_number : Int32} {c_fives : (Nat → Int32)} {c_isLeft : (Nat → Int32)} {c_wentTimes : Int32} {c_goes : (Nat → Int32)} {c_isLeftLaid : Int32} {c_shares : (Nat → Int32)} {c_allShares : Int32} {v : Int32 × Int64 × Int64 × (Nat → Int64) × (Nat → Int64) × (Nat → Int64) × (Nat → Int64)} (hX : xIs (j10_asks) X none none (hM c_thrown c_told c_read c_many c_eights c_gains c_notes c_seen c_turns c_drawn c_state c_tape c_taped c_size c_from c_next c_token c_value c_fault c_number c_fives c_isLeft c_wentTimes c_goes c_isLeftLaid c_game c_rows c_columns v.1 v.2.1 v.2.2.1 v.2.2.2.1 v.2.2.2.2.1 v.2.2.2.2.2.1 v.2.2.2.2.2.2 c_shares c_allShares)) (hf : F10_asks z x1 x2 c_game c_rows c_columns c_isFound c_bestValue c_bestBelow c_bestShare c_share c_matrix c_system = some v) : xV (j10_asks) X 0 0 (hM c_thrown c_told c_read c_many c_eights c_gains c_notes c_seen c_turns c_drawn c_state c_tape c_taped c_size c_from c_next c_token c_value c_fault c_number c_fives c_isLeft c_wentTimes c_goes c_isLeftLaid c_game c_rows c_columns c_isFound c_bestValue c_bestBelow c_bestShare c_share c_matrix c_system c_shares c_allShares) 0 [(0, .ref 0), (1, .int x1), (2, .int x2)] [] := by
  unfold F10_asks at hf
  refine xV_iconst 1 rfl dX10_asks_0 xk_i0 ?_
  refine xV_istore_n (L' := [(3, .int (0 : Int32)), (0, .ref 0), (1, .int x1), (2, .int x2)]) 2 rfl dX10_asks_1 rfl (xlt rfl) rfl ?_
  refine xV_iconst 3 rfl dX10_asks_2 xk_i0 ?_
  refine xV_istore (L' := [(4, .int (0 : Int32)), (3, .int (0 : Int32)), (0, .ref 0), (1, .int x1), (2, .int x2)]) 5 rfl dX10_asks_3 (xlt rfl) rfl ?_
  refine xV_sub [2, 3, 4, 1, 0] rfl ?_
  exact T10_asks_b5 hX _ hf
theorem C10_asks (l : Launch) {z : Nat} {x1 : Int32} {x2 : Int32} {c_game : (Nat → Int32)} {c_rows : Int32} {c_columns : Int32} {c_isFound : Int32} {c_bestValue : Int64} {c_bestBelow : Int64} {c_bestShare : (Nat → Int64)} {c_share : (Nat → Int64)} {c_matrix : (Nat → Int64)} {c_system : (Nat → Int64)} {c_thrown : Int32} {c_told : (Nat → Int32)} {c_read : (Nat → Int32)} {c_many : (Nat → Int32)} {c_eights : (Nat → Int32)} {c_gains : (Nat → Int32)} {c_notes : (Nat → Int32)} {c_seen : (Nat → Int32)} {c_turns : (Nat → Int32)} {c_drawn : (Nat → Int32)} {c_state : Int32} {c_tape : (Nat → Int32)} {c_taped : Int32} {c_size : Int32} {c_from : Int32} {c_next : Int32} {c_token : Int32} {c_value : Int32} {c_fault : Int32} {c_number : Int32} {c_fives : (Nat → Int32)} {c_isLeft : (Nat → Int32)} {c_wentTimes : Int32} {c_goes : (Nat → Int32)} {c_isLeftLaid : Int32} {c_shares : (Nat → Int32)} {c_allShares : Int32} {v : Int32 × Int64 × Int64 × (Nat → Int64) × (Nat → Int64) × (Nat → Int64) × (Nat → Int64)} (hf : F10_asks z x1 x2 c_game c_rows c_columns c_isFound c_bestValue c_bestBelow c_bestShare c_share c_matrix c_system = some v) : xCt l yX10_asks none j10_asks [.ref 0, .int x1, .int x2] (hM c_thrown c_told c_read c_many c_eights c_gains c_notes c_seen c_turns c_drawn c_state c_tape c_taped c_size c_from c_next c_token c_value c_fault c_number c_fives c_isLeft c_wentTimes c_goes c_isLeftLaid c_game c_rows c_columns c_isFound c_bestValue c_bestBelow c_bestShare c_share c_matrix c_system c_shares c_allShares) none (hM c_thrown c_told c_read c_many c_eights c_gains c_notes c_seen c_turns c_drawn c_state c_tape c_taped c_size c_from c_next c_token c_value c_fault c_number c_fives c_isLeft c_wentTimes c_goes c_isLeftLaid c_game c_rows c_columns v.1 v.2.1 v.2.2.1 v.2.2.2.1 v.2.2.2.2.1 v.2.2.2.2.2.1 v.2.2.2.2.2.2 c_shares c_allShares) := xCt_of (by decide) rfl (Nat.le_of_ble_eq_true rfl) (fun _ hX => T10_asks hX hf)
theorem m10_asks : xMd yX10_asks RX10 none j10_asks 2 := ⟨List.mem_of_getElem? (i := 950) (by decide +kernel), List.mem_of_getElem? (i := 5) (by decide +kernel), rfl, by decide +kernel⟩
theorem v10_asks : xMv yX10_asks RX10 := ⟨List.mem_of_getElem? (i := 948) (by decide +kernel), List.mem_of_getElem? (i := 949) (by decide +kernel)⟩
theorem k10_302 : Cond.methodLink RX10 302 yX10_bits ∈ wsL_law0 := List.mem_of_getElem? (i := 944) (by decide +kernel)
theorem k10_305 : Cond.methodLink RX10 305 yX10_asks ∈ wsL_law0 := List.mem_of_getElem? (i := 947) (by decide +kernel)
theorem dX10_solves_0 : decode cX10_solves 0 = .ok (.aload_n 0, 1) := by decide +kernel
theorem dX10_solves_1 : decode cX10_solves 1 = .ok (.iconst 0, 1) := by decide +kernel
theorem dX10_solves_2 : decode cX10_solves 2 = .ok (.putfield 292, 3) := by decide +kernel
theorem dX10_solves_5 : decode cX10_solves 5 = .ok (.iconst 1, 1) := by decide +kernel
theorem dX10_solves_6 : decode cX10_solves 6 = .ok (.istore_n 1, 1) := by decide +kernel
theorem dX10_solves_7 : decode cX10_solves 7 = .ok (.iload_n 1, 1) := by decide +kernel
theorem dX10_solves_8 : decode cX10_solves 8 = .ok (.iconst 1, 1) := by decide +kernel
theorem dX10_solves_9 : decode cX10_solves 9 = .ok (.aload_n 0, 1) := by decide +kernel
theorem dX10_solves_10 : decode cX10_solves 10 = .ok (.getfield 253, 3) := by decide +kernel
theorem dX10_solves_13 : decode cX10_solves 13 = .ok (.ishl, 1) := by decide +kernel
theorem dX10_solves_14 : decode cX10_solves 14 = .ok (.if_icmp .ge 44, 3) := by decide +kernel
theorem dX10_solves_17 : decode cX10_solves 17 = .ok (.iconst 1, 1) := by decide +kernel
theorem dX10_solves_18 : decode cX10_solves 18 = .ok (.istore_n 2, 1) := by decide +kernel
theorem dX10_solves_19 : decode cX10_solves 19 = .ok (.iload_n 2, 1) := by decide +kernel
theorem dX10_solves_20 : decode cX10_solves 20 = .ok (.iconst 1, 1) := by decide +kernel
theorem dX10_solves_21 : decode cX10_solves 21 = .ok (.aload_n 0, 1) := by decide +kernel
theorem dX10_solves_22 : decode cX10_solves 22 = .ok (.getfield 256, 3) := by decide +kernel
theorem dX10_solves_25 : decode cX10_solves 25 = .ok (.ishl, 1) := by decide +kernel
theorem dX10_solves_26 : decode cX10_solves 26 = .ok (.if_icmp .ge 26, 3) := by decide +kernel
theorem dX10_solves_29 : decode cX10_solves 29 = .ok (.iload_n 1, 1) := by decide +kernel
theorem dX10_solves_30 : decode cX10_solves 30 = .ok (.invokestatic 302, 3) := by decide +kernel
theorem dX10_solves_33 : decode cX10_solves 33 = .ok (.iload_n 2, 1) := by decide +kernel
theorem dX10_solves_34 : decode cX10_solves 34 = .ok (.invokestatic 302, 3) := by decide +kernel
theorem dX10_solves_37 : decode cX10_solves 37 = .ok (.if_icmp .ne 9, 3) := by decide +kernel
theorem dX10_solves_40 : decode cX10_solves 40 = .ok (.aload_n 0, 1) := by decide +kernel
theorem dX10_solves_41 : decode cX10_solves 41 = .ok (.iload_n 1, 1) := by decide +kernel
theorem dX10_solves_42 : decode cX10_solves 42 = .ok (.iload_n 2, 1) := by decide +kernel
theorem dX10_solves_43 : decode cX10_solves 43 = .ok (.invokevirtual 305, 3) := by decide +kernel
theorem dX10_solves_46 : decode cX10_solves 46 = .ok (.iinc 2 1, 3) := by decide +kernel
theorem dX10_solves_49 : decode cX10_solves 49 = .ok (.goto (-30), 3) := by decide +kernel
theorem dX10_solves_52 : decode cX10_solves 52 = .ok (.iinc 1 1, 3) := by decide +kernel
theorem dX10_solves_55 : decode cX10_solves 55 = .ok (.goto (-48), 3) := by decide +kernel
theorem dX10_solves_58 : decode cX10_solves 58 = .ok (.return_, 1) := by decide +kernel
abbrev j10_solves : xJ := (cX10_solves, 3, RX10, 5, 0, 0)
def F10_solves_b52 (z : Nat) (x1 : Int32) (c_game : (Nat → Int32)) (c_rows : Int32) (c_columns : Int32) (c_isFound : Int32) (c_bestValue : Int64) (c_bestBelow : Int64) (c_bestShare : (Nat → Int64)) (c_share : (Nat → Int64)) (c_matrix : (Nat → Int64)) (c_system : (Nat → Int64)) (k7 : Int32 → (Nat → Int32) → Int32 → Int32 → Int32 → Int64 → Int64 → (Nat → Int64) → (Nat → Int64) → (Nat → Int64) → (Nat → Int64) → Option (Int32 × Int64 × Int64 × (Nat → Int64) × (Nat → Int64) × (Nat → Int64) × (Nat → Int64))) : Option (Int32 × Int64 × Int64 × (Nat → Int64) × (Nat → Int64) × (Nat → Int64) × (Nat → Int64)) :=
  k7 (x1 + (1 : Int32)) c_game c_rows c_columns c_isFound c_bestValue c_bestBelow c_bestShare c_share c_matrix c_system
theorem T10_solves_b52 {X : xX} {c_thrown : Int32} {c_told : (Nat → Int32)} {c_read : (Nat → Int32)} {c_many : (Nat → Int32)} {c_eights : (Nat → Int32)} {c_gains : (Nat → Int32)} {c_notes : (Nat → Int32)} {c_seen : (Nat → Int32)} {c_turns : (Nat → Int32)} {c_drawn : (Nat → Int32)} {c_state : Int32} {c_tape : (Nat → Int32)} {c_taped : Int32} {c_size : Int32} {c_from : Int32} {c_next : Int32} {c_token : Int32} {c_value : Int32} {c_fault : Int32} {c_number : Int32} {c_fives : (Nat → Int32)} {c_isLeft : (Nat → Int32)} {c_wentTimes : Int32} {c_goes : (Nat → Int32)} {c_isLeftLaid : Int32} {c_shares : (Nat → Int32)} {c_allShares : Int32} {x1 : Int32} {c_game : (Nat → Int32)} {c_rows : Int32} {c_columns : Int32} {c_isFound : Int32} {c_bestValue : Int64} {c_bestBelow : Int64} {c_bestShare : (Nat → Int64)} {c_share : (Nat → Int64)} {c_matrix : (Nat → Int64)} {c_system : (Nat → Int64)} {z : Nat} {v : Int32 × Int64 × Int64 × (Nat → Int64) × (Nat → Int64) × (Nat → Int64) × (Nat → Int64)} {k7 : Int32 → (Nat → Int32) → Int32 → Int32 → Int32 → Int64 → Int64 → (Nat → Int64) → (Nat → Int64) → (Nat → Int64) → (Nat → Int64) → Option (Int32 × Int64 × Int64 × (Nat → Int64) × (Nat → Int64) × (Nat → Int64) × (Nat → Int64))} (hX : xIs (j10_solves) X none none (hM c_thrown c_told c_read c_many c_eights c_gains c_notes c_seen c_turns c_drawn c_state c_tape c_taped c_size c_from c_next c_token c_value c_fault c_number c_fives c_isLeft c_wentTimes c_goes c_isLeftLaid c_game c_rows c_columns v.1 v.2.1 v.2.2.1 v.2.2.2.1 v.2.2.2.2.1 v.2.2.2.2.2.1 v.2.2.2.2.2.2 c_shares c_allShares)) (hk7 : ∀ {x1 : Int32} {c_isFound : Int32} {c_bestValue : Int64} {c_bestBelow : Int64} {c_bestShare : (Nat → Int64)} {c_share : (Nat → Int64)} {c_matrix : (Nat → Int64)} {c_system : (Nat → Int64)}, k7 x1 c_game c_rows c_columns c_isFound c_bestValue c_bestBelow c_bestShare c_share c_matrix c_system = some v → xV (j10_solves) X 0 0 (hM c_thrown c_told c_read c_many c_eights c_gains c_notes c_seen c_turns c_drawn c_state c_tape c_taped c_size c_from c_next c_token c_value c_fault c_number c_fives c_isLeft c_wentTimes c_goes c_isLeftLaid c_game c_rows c_columns c_isFound c_bestValue c_bestBelow c_bestShare c_share c_matrix c_system c_shares c_allShares) 7 [(0, .ref 0), (1, .int x1)] []) (hf : F10_solves_b52 z x1 c_game c_rows c_columns c_isFound c_bestValue c_bestBelow c_bestShare c_share c_matrix c_system k7 = some v) : xV (j10_solves) X 0 0 (hM c_thrown c_told c_read c_many c_eights c_gains c_notes c_seen c_turns c_drawn c_state c_tape c_taped c_size c_from c_next c_token c_value c_fault c_number c_fives c_isLeft c_wentTimes c_goes c_isLeftLaid c_game c_rows c_columns c_isFound c_bestValue c_bestBelow c_bestShare c_share c_matrix c_system c_shares c_allShares) 52 [(0, .ref 0), (1, .int x1)] [] := by
  unfold F10_solves_b52 at hf
  refine xV_iinc (L' := [(1, .int (x1 + (1 : Int32))), (0, .ref 0)]) 55 rfl dX10_solves_52 1 rfl (xk_inc xk_i1) (xlt rfl) rfl ?_
  refine xV_goto (tgt := 7) dX10_solves_55 (by decide) ?_
  refine xV_sub [1, 0] rfl ?_
  exact hk7 hf
def F10_solves_b46 (z : Nat) (x1 : Int32) (x2 : Int32) (c_game : (Nat → Int32)) (c_rows : Int32) (c_columns : Int32) (c_isFound : Int32) (c_bestValue : Int64) (c_bestBelow : Int64) (c_bestShare : (Nat → Int64)) (c_share : (Nat → Int64)) (c_matrix : (Nat → Int64)) (c_system : (Nat → Int64)) (k7 : Int32 → (Nat → Int32) → Int32 → Int32 → Int32 → Int64 → Int64 → (Nat → Int64) → (Nat → Int64) → (Nat → Int64) → (Nat → Int64) → Option (Int32 × Int64 × Int64 × (Nat → Int64) × (Nat → Int64) × (Nat → Int64) × (Nat → Int64))) (k19 : Int32 → Int32 → (Nat → Int32) → Int32 → Int32 → Int32 → Int64 → Int64 → (Nat → Int64) → (Nat → Int64) → (Nat → Int64) → (Nat → Int64) → Option (Int32 × Int64 × Int64 × (Nat → Int64) × (Nat → Int64) × (Nat → Int64) × (Nat → Int64))) : Option (Int32 × Int64 × Int64 × (Nat → Int64) × (Nat → Int64) × (Nat → Int64) × (Nat → Int64)) :=
  k19 x1 (x2 + (1 : Int32)) c_game c_rows c_columns c_isFound c_bestValue c_bestBelow c_bestShare c_share c_matrix c_system
theorem T10_solves_b46 {X : xX} {c_thrown : Int32} {c_told : (Nat → Int32)} {c_read : (Nat → Int32)} {c_many : (Nat → Int32)} {c_eights : (Nat → Int32)} {c_gains : (Nat → Int32)} {c_notes : (Nat → Int32)} {c_seen : (Nat → Int32)} {c_turns : (Nat → Int32)} {c_drawn : (Nat → Int32)} {c_state : Int32} {c_tape : (Nat → Int32)} {c_taped : Int32} {c_size : Int32} {c_from : Int32} {c_next : Int32} {c_token : Int32} {c_value : Int32} {c_fault : Int32} {c_number : Int32} {c_fives : (Nat → Int32)} {c_isLeft : (Nat → Int32)} {c_wentTimes : Int32} {c_goes : (Nat → Int32)} {c_isLeftLaid : Int32} {c_shares : (Nat → Int32)} {c_allShares : Int32} {x1 : Int32} {x2 : Int32} {c_game : (Nat → Int32)} {c_rows : Int32} {c_columns : Int32} {c_isFound : Int32} {c_bestValue : Int64} {c_bestBelow : Int64} {c_bestShare : (Nat → Int64)} {c_share : (Nat → Int64)} {c_matrix : (Nat → Int64)} {c_system : (Nat → Int64)} {z : Nat} {v : Int32 × Int64 × Int64 × (Nat → Int64) × (Nat → Int64) × (Nat → Int64) × (Nat → Int64)} {k7 : Int32 → (Nat → Int32) → Int32 → Int32 → Int32 → Int64 → Int64 → (Nat → Int64) → (Nat → Int64) → (Nat → Int64) → (Nat → Int64) → Option (Int32 × Int64 × Int64 × (Nat → Int64) × (Nat → Int64) × (Nat → Int64) × (Nat → Int64))} {k19 : Int32 → Int32 → (Nat → Int32) → Int32 → Int32 → Int32 → Int64 → Int64 → (Nat → Int64) → (Nat → Int64) → (Nat → Int64) → (Nat → Int64) → Option (Int32 × Int64 × Int64 × (Nat → Int64) × (Nat → Int64) × (Nat → Int64) × (Nat → Int64))} (hX : xIs (j10_solves) X none none (hM c_thrown c_told c_read c_many c_eights c_gains c_notes c_seen c_turns c_drawn c_state c_tape c_taped c_size c_from c_next c_token c_value c_fault c_number c_fives c_isLeft c_wentTimes c_goes c_isLeftLaid c_game c_rows c_columns v.1 v.2.1 v.2.2.1 v.2.2.2.1 v.2.2.2.2.1 v.2.2.2.2.2.1 v.2.2.2.2.2.2 c_shares c_allShares)) (hk7 : ∀ {x1 : Int32} {c_isFound : Int32} {c_bestValue : Int64} {c_bestBelow : Int64} {c_bestShare : (Nat → Int64)} {c_share : (Nat → Int64)} {c_matrix : (Nat → Int64)} {c_system : (Nat → Int64)}, k7 x1 c_game c_rows c_columns c_isFound c_bestValue c_bestBelow c_bestShare c_share c_matrix c_system = some v → xV (j10_solves) X 0 0 (hM c_thrown c_told c_read c_many c_eights c_gains c_notes c_seen c_turns c_drawn c_state c_tape c_taped c_size c_from c_next c_token c_value c_fault c_number c_fives c_isLeft c_wentTimes c_goes c_isLeftLaid c_game c_rows c_columns c_isFound c_bestValue c_bestBelow c_bestShare c_share c_matrix c_system c_shares c_allShares) 7 [(0, .ref 0), (1, .int x1)] []) (hk19 : ∀ {x1 : Int32} {x2 : Int32} {c_isFound : Int32} {c_bestValue : Int64} {c_bestBelow : Int64} {c_bestShare : (Nat → Int64)} {c_share : (Nat → Int64)} {c_matrix : (Nat → Int64)} {c_system : (Nat → Int64)}, k19 x1 x2 c_game c_rows c_columns c_isFound c_bestValue c_bestBelow c_bestShare c_share c_matrix c_system = some v → xV (j10_solves) X 0 0 (hM c_thrown c_told c_read c_many c_eights c_gains c_notes c_seen c_turns c_drawn c_state c_tape c_taped c_size c_from c_next c_token c_value c_fault c_number c_fives c_isLeft c_wentTimes c_goes c_isLeftLaid c_game c_rows c_columns c_isFound c_bestValue c_bestBelow c_bestShare c_share c_matrix c_system c_shares c_allShares) 19 [(0, .ref 0), (1, .int x1), (2, .int x2)] []) (hf : F10_solves_b46 z x1 x2 c_game c_rows c_columns c_isFound c_bestValue c_bestBelow c_bestShare c_share c_matrix c_system k7 k19 = some v) : xV (j10_solves) X 0 0 (hM c_thrown c_told c_read c_many c_eights c_gains c_notes c_seen c_turns c_drawn c_state c_tape c_taped c_size c_from c_next c_token c_value c_fault c_number c_fives c_isLeft c_wentTimes c_goes c_isLeftLaid c_game c_rows c_columns c_isFound c_bestValue c_bestBelow c_bestShare c_share c_matrix c_system c_shares c_allShares) 46 [(0, .ref 0), (1, .int x1), (2, .int x2)] [] := by
  unfold F10_solves_b46 at hf
  refine xV_iinc (L' := [(2, .int (x2 + (1 : Int32))), (0, .ref 0), (1, .int x1)]) 49 rfl dX10_solves_46 2 rfl (xk_inc xk_i1) (xlt rfl) rfl ?_
  refine xV_goto (tgt := 19) dX10_solves_49 (by decide) ?_
  refine xV_sub [1, 2, 0] rfl ?_
  exact hk19 hf
def F10_solves_b19 (z : Nat) (w : Nat) (x1 : Int32) (x2 : Int32) (c_game : (Nat → Int32)) (c_rows : Int32) (c_columns : Int32) (c_isFound : Int32) (c_bestValue : Int64) (c_bestBelow : Int64) (c_bestShare : (Nat → Int64)) (c_share : (Nat → Int64)) (c_matrix : (Nat → Int64)) (c_system : (Nat → Int64)) (k7 : Int32 → (Nat → Int32) → Int32 → Int32 → Int32 → Int64 → Int64 → (Nat → Int64) → (Nat → Int64) → (Nat → Int64) → (Nat → Int64) → Option (Int32 × Int64 × Int64 × (Nat → Int64) × (Nat → Int64) × (Nat → Int64) × (Nat → Int64))) : Option (Int32 × Int64 × Int64 × (Nat → Int64) × (Nat → Int64) × (Nat → Int64) × (Nat → Int64)) := match w with
  | 0 => none
  | w + 1 => if ((1 : Int32) <<< (c_columns &&& 31)) ≤ x2 then (F10_solves_b52 z x1 c_game c_rows c_columns c_isFound c_bestValue c_bestBelow c_bestShare c_share c_matrix c_system k7) else ((F10_bits z x1).bind (fun v30 => (F10_bits z x2).bind (fun v34 => if v30 = v34 then ((F10_asks z x1 x2 c_game c_rows c_columns c_isFound c_bestValue c_bestBelow c_bestShare c_share c_matrix c_system).bind (fun v43 => F10_solves_b46 z x1 x2 c_game c_rows c_columns v43.1 v43.2.1 v43.2.2.1 v43.2.2.2.1 v43.2.2.2.2.1 v43.2.2.2.2.2.1 v43.2.2.2.2.2.2 k7 (fun q0 q1 q2 q3 q4 q5 q6 q7 q8 q9 q10 q11 => F10_solves_b19 z w q0 q1 q2 q3 q4 q5 q6 q7 q8 q9 q10 q11 k7))) else (F10_solves_b46 z x1 x2 c_game c_rows c_columns c_isFound c_bestValue c_bestBelow c_bestShare c_share c_matrix c_system k7 (fun q0 q1 q2 q3 q4 q5 q6 q7 q8 q9 q10 q11 => F10_solves_b19 z w q0 q1 q2 q3 q4 q5 q6 q7 q8 q9 q10 q11 k7)))))
theorem T10_solves_b19 {X : xX} {c_thrown : Int32} {c_told : (Nat → Int32)} {c_read : (Nat → Int32)} {c_many : (Nat → Int32)} {c_eights : (Nat → Int32)} {c_gains : (Nat → Int32)} {c_notes : (Nat → Int32)} {c_seen : (Nat → Int32)} {c_turns : (Nat → Int32)} {c_drawn : (Nat → Int32)} {c_state : Int32} {c_tape : (Nat → Int32)} {c_taped : Int32} {c_size : Int32} {c_from : Int32} {c_next : Int32} {c_token : Int32} {c_value : Int32} {c_fault : Int32} {c_number : Int32} {c_fives : (Nat → Int32)} {c_isLeft : (Nat → Int32)} {c_wentTimes : Int32} {c_goes : (Nat → Int32)} {c_isLeftLaid : Int32} {c_game : (Nat → Int32)} {c_rows : Int32} {c_columns : Int32} {c_shares : (Nat → Int32)} {c_allShares : Int32} {z : Nat} {v : Int32 × Int64 × Int64 × (Nat → Int64) × (Nat → Int64) × (Nat → Int64) × (Nat → Int64)} {k7 : Int32 → (Nat → Int32) → Int32 → Int32 → Int32 → Int64 → Int64 → (Nat → Int64) → (Nat → Int64) → (Nat → Int64) → (Nat → Int64) → Option (Int32 × Int64 × Int64 × (Nat → Int64) × (Nat → Int64) × (Nat → Int64) × (Nat → Int64))} (hX : xIs (j10_solves) X none none (hM c_thrown c_told c_read c_many c_eights c_gains c_notes c_seen c_turns c_drawn c_state c_tape c_taped c_size c_from c_next c_token c_value c_fault c_number c_fives c_isLeft c_wentTimes c_goes c_isLeftLaid c_game c_rows c_columns v.1 v.2.1 v.2.2.1 v.2.2.2.1 v.2.2.2.2.1 v.2.2.2.2.2.1 v.2.2.2.2.2.2 c_shares c_allShares)) (hk7 : ∀ {x1 : Int32} {c_isFound : Int32} {c_bestValue : Int64} {c_bestBelow : Int64} {c_bestShare : (Nat → Int64)} {c_share : (Nat → Int64)} {c_matrix : (Nat → Int64)} {c_system : (Nat → Int64)}, k7 x1 c_game c_rows c_columns c_isFound c_bestValue c_bestBelow c_bestShare c_share c_matrix c_system = some v → xV (j10_solves) X 0 0 (hM c_thrown c_told c_read c_many c_eights c_gains c_notes c_seen c_turns c_drawn c_state c_tape c_taped c_size c_from c_next c_token c_value c_fault c_number c_fives c_isLeft c_wentTimes c_goes c_isLeftLaid c_game c_rows c_columns c_isFound c_bestValue c_bestBelow c_bestShare c_share c_matrix c_system c_shares c_allShares) 7 [(0, .ref 0), (1, .int x1)] []) : ∀ (w : Nat) {x1 : Int32} {x2 : Int32} {c_isFound : Int32} {c_bestValue : Int64} {c_bestBelow : Int64} {c_bestShare : (Nat → Int64)} {c_share : (Nat → Int64)} {c_matrix : (Nat → Int64)} {c_system : (Nat → Int64)}, F10_solves_b19 z w x1 x2 c_game c_rows c_columns c_isFound c_bestValue c_bestBelow c_bestShare c_share c_matrix c_system k7 = some v → xV (j10_solves) X 0 0 (hM c_thrown c_told c_read c_many c_eights c_gains c_notes c_seen c_turns c_drawn c_state c_tape c_taped c_size c_from c_next c_token c_value c_fault c_number c_fives c_isLeft c_wentTimes c_goes c_isLeftLaid c_game c_rows c_columns c_isFound c_bestValue c_bestBelow c_bestShare c_share c_matrix c_system c_shares c_allShares) 19 [(0, .ref 0), (1, .int x1), (2, .int x2)] [] := by
  intro w
  induction w with
  | zero => intro x1 x2 c_isFound c_bestValue c_bestBelow c_bestShare c_share c_matrix c_system hf; cases hf
  | succ w ih =>
    intro x1 x2 c_isFound c_bestValue c_bestBelow c_bestShare c_share c_matrix c_system hf
    unfold F10_solves_b19 at hf
    refine xV_iload_n 20 rfl dX10_solves_19 rfl 2 rfl ?_
    refine xV_iconst 21 rfl dX10_solves_20 xk_i1 ?_
    refine xV_aload_n 22 rfl dX10_solves_21 rfl 0 rfl ?_
    refine xV_get (v := .int c_columns) 25 rfl dX10_solves_22 f10_256 rfl rfl ?_
    refine xV_ishl 26 rfl dX10_solves_25 ?_
    refine xV_icmp_ge (tgt := 52) 29 rfl dX10_solves_26 (by decide) (fun h26 => ?_) (fun h26 => ?_)
    · have hf := xif_t hf h26
      refine xV_sub [0, 1] rfl ?_
      exact T10_solves_b52 hX hk7 hf
    · have hf := xif_f hf h26
      refine xV_iload_n 30 rfl dX10_solves_29 rfl 1 rfl ?_
      obtain ⟨v30, hv30, hf⟩ := xb_s hf
      refine xV_st0 (rest := []) 33 rfl dX10_solves_30 rfl (C10_bits X.1.2.1 hv30) m10_bits s10_bits k10_302 rfl (Nat.le_of_ble_eq_true rfl) (Nat.le_of_ble_eq_true rfl) (Nat.le_of_ble_eq_true rfl) ⟨Nat.le_refl _, Nat.le_refl _⟩ ?_
      show xV (j10_solves) X 0 0 (hM c_thrown c_told c_read c_many c_eights c_gains c_notes c_seen c_turns c_drawn c_state c_tape c_taped c_size c_from c_next c_token c_value c_fault c_number c_fives c_isLeft c_wentTimes c_goes c_isLeftLaid c_game c_rows c_columns c_isFound c_bestValue c_bestBelow c_bestShare c_share c_matrix c_system c_shares c_allShares) 33 [(0, .ref 0), (1, .int x1), (2, .int x2)] [.int v30]
      refine xV_iload_n 34 rfl dX10_solves_33 rfl 2 rfl ?_
      obtain ⟨v34, hv34, hf⟩ := xb_s hf
      refine xV_st0 (rest := [.int v30]) 37 rfl dX10_solves_34 rfl (C10_bits X.1.2.1 hv34) m10_bits s10_bits k10_302 rfl (Nat.le_of_ble_eq_true rfl) (Nat.le_of_ble_eq_true rfl) (Nat.le_of_ble_eq_true rfl) ⟨Nat.le_refl _, Nat.le_refl _⟩ ?_
      show xV (j10_solves) X 0 0 (hM c_thrown c_told c_read c_many c_eights c_gains c_notes c_seen c_turns c_drawn c_state c_tape c_taped c_size c_from c_next c_token c_value c_fault c_number c_fives c_isLeft c_wentTimes c_goes c_isLeftLaid c_game c_rows c_columns c_isFound c_bestValue c_bestBelow c_bestShare c_share c_matrix c_system c_shares c_allShares) 37 [(0, .ref 0), (1, .int x1), (2, .int x2)] [.int v34, .int v30]
      refine xV_icmp_ne (tgt := 46) 40 rfl dX10_solves_37 (by decide) (fun h37 => ?_) (fun h37 => ?_)
      · have hf := xif_f hf h37
        exact T10_solves_b46 hX hk7 (fun {_ _ _ _ _ _ _ _ _} hq => ih hq) hf
      · have hf := xif_t hf h37
        refine xV_aload_n 41 rfl dX10_solves_40 rfl 0 rfl ?_
        refine xV_iload_n 42 rfl dX10_solves_41 rfl 1 rfl ?_
        refine xV_iload_n 43 rfl dX10_solves_42 rfl 2 rfl ?_
        obtain ⟨v43, hv43, hf⟩ := xb_s hf
        refine xV_same (rest := []) 46 rfl dX10_solves_43 rfl (C10_asks X.1.2.1 hv43) m10_asks v10_asks k10_305 rfl rfl rfl rfl rfl (Nat.le_of_ble_eq_true rfl) (Nat.le_of_ble_eq_true rfl) (Nat.le_of_ble_eq_true rfl) ⟨Nat.le_refl _, Nat.le_refl _⟩ ?_
        show xV (j10_solves) X 0 0 (hM c_thrown c_told c_read c_many c_eights c_gains c_notes c_seen c_turns c_drawn c_state c_tape c_taped c_size c_from c_next c_token c_value c_fault c_number c_fives c_isLeft c_wentTimes c_goes c_isLeftLaid c_game c_rows c_columns v43.1 v43.2.1 v43.2.2.1 v43.2.2.2.1 v43.2.2.2.2.1 v43.2.2.2.2.2.1 v43.2.2.2.2.2.2 c_shares c_allShares) 46 [(0, .ref 0), (1, .int x1), (2, .int x2)] []
        exact T10_solves_b46 hX hk7 (fun {_ _ _ _ _ _ _ _ _} hq => ih hq) hf
def F10_solves_b7 (z : Nat) (w : Nat) (x1 : Int32) (c_game : (Nat → Int32)) (c_rows : Int32) (c_columns : Int32) (c_isFound : Int32) (c_bestValue : Int64) (c_bestBelow : Int64) (c_bestShare : (Nat → Int64)) (c_share : (Nat → Int64)) (c_matrix : (Nat → Int64)) (c_system : (Nat → Int64)) : Option (Int32 × Int64 × Int64 × (Nat → Int64) × (Nat → Int64) × (Nat → Int64) × (Nat → Int64)) := match w with
  | 0 => none
  | w + 1 => if ((1 : Int32) <<< (c_rows &&& 31)) ≤ x1 then (some (c_isFound, c_bestValue, c_bestBelow, c_bestShare, c_share, c_matrix, c_system)) else (F10_solves_b19 z z x1 (1 : Int32) c_game c_rows c_columns c_isFound c_bestValue c_bestBelow c_bestShare c_share c_matrix c_system (fun q0 q1 q2 q3 q4 q5 q6 q7 q8 q9 q10 => F10_solves_b7 z w q0 q1 q2 q3 q4 q5 q6 q7 q8 q9 q10))
theorem T10_solves_b7 {X : xX} {c_thrown : Int32} {c_told : (Nat → Int32)} {c_read : (Nat → Int32)} {c_many : (Nat → Int32)} {c_eights : (Nat → Int32)} {c_gains : (Nat → Int32)} {c_notes : (Nat → Int32)} {c_seen : (Nat → Int32)} {c_turns : (Nat → Int32)} {c_drawn : (Nat → Int32)} {c_state : Int32} {c_tape : (Nat → Int32)} {c_taped : Int32} {c_size : Int32} {c_from : Int32} {c_next : Int32} {c_token : Int32} {c_value : Int32} {c_fault : Int32} {c_number : Int32} {c_fives : (Nat → Int32)} {c_isLeft : (Nat → Int32)} {c_wentTimes : Int32} {c_goes : (Nat → Int32)} {c_isLeftLaid : Int32} {c_game : (Nat → Int32)} {c_rows : Int32} {c_columns : Int32} {c_shares : (Nat → Int32)} {c_allShares : Int32} {z : Nat} {v : Int32 × Int64 × Int64 × (Nat → Int64) × (Nat → Int64) × (Nat → Int64) × (Nat → Int64)} (hX : xIs (j10_solves) X none none (hM c_thrown c_told c_read c_many c_eights c_gains c_notes c_seen c_turns c_drawn c_state c_tape c_taped c_size c_from c_next c_token c_value c_fault c_number c_fives c_isLeft c_wentTimes c_goes c_isLeftLaid c_game c_rows c_columns v.1 v.2.1 v.2.2.1 v.2.2.2.1 v.2.2.2.2.1 v.2.2.2.2.2.1 v.2.2.2.2.2.2 c_shares c_allShares)) : ∀ (w : Nat) {x1 : Int32} {c_isFound : Int32} {c_bestValue : Int64} {c_bestBelow : Int64} {c_bestShare : (Nat → Int64)} {c_share : (Nat → Int64)} {c_matrix : (Nat → Int64)} {c_system : (Nat → Int64)}, F10_solves_b7 z w x1 c_game c_rows c_columns c_isFound c_bestValue c_bestBelow c_bestShare c_share c_matrix c_system = some v → xV (j10_solves) X 0 0 (hM c_thrown c_told c_read c_many c_eights c_gains c_notes c_seen c_turns c_drawn c_state c_tape c_taped c_size c_from c_next c_token c_value c_fault c_number c_fives c_isLeft c_wentTimes c_goes c_isLeftLaid c_game c_rows c_columns c_isFound c_bestValue c_bestBelow c_bestShare c_share c_matrix c_system c_shares c_allShares) 7 [(0, .ref 0), (1, .int x1)] [] := by
  intro w
  induction w with
  | zero => intro x1 c_isFound c_bestValue c_bestBelow c_bestShare c_share c_matrix c_system hf; cases hf
  | succ w ih =>
    intro x1 c_isFound c_bestValue c_bestBelow c_bestShare c_share c_matrix c_system hf
    unfold F10_solves_b7 at hf
    refine xV_iload_n 8 rfl dX10_solves_7 rfl 1 rfl ?_
    refine xV_iconst 9 rfl dX10_solves_8 xk_i1 ?_
    refine xV_aload_n 10 rfl dX10_solves_9 rfl 0 rfl ?_
    refine xV_get (v := .int c_rows) 13 rfl dX10_solves_10 f10_253 rfl rfl ?_
    refine xV_ishl 14 rfl dX10_solves_13 ?_
    refine xV_icmp_ge (tgt := 58) 17 rfl dX10_solves_14 (by decide) (fun h14 => ?_) (fun h14 => ?_)
    · have hf := xif_t hf h14
      obtain rfl := Option.some.inj hf
      exact xV_vret hX dX10_solves_58 (Nat.zero_le _) (Nat.zero_le _)
    · have hf := xif_f hf h14
      refine xV_iconst 18 rfl dX10_solves_17 xk_i1 ?_
      refine xV_istore_n (L' := [(2, .int (1 : Int32)), (0, .ref 0), (1, .int x1)]) 19 rfl dX10_solves_18 rfl (xlt rfl) rfl ?_
      refine xV_sub [1, 2, 0] rfl ?_
      exact T10_solves_b19 hX (fun {_ _ _ _ _ _ _ _} hq => ih hq) _ hf
def F10_solves (z : Nat) (c_game : (Nat → Int32)) (c_rows : Int32) (c_columns : Int32) (c_isFound : Int32) (c_bestValue : Int64) (c_bestBelow : Int64) (c_bestShare : (Nat → Int64)) (c_share : (Nat → Int64)) (c_matrix : (Nat → Int64)) (c_system : (Nat → Int64)) : Option (Int32 × Int64 × Int64 × (Nat → Int64) × (Nat → Int64) × (Nat → Int64) × (Nat → Int64)) :=
  F10_solves_b7 z z (1 : Int32) c_game c_rows c_columns (0 : Int32) c_bestValue c_bestBelow c_bestShare c_share c_matrix c_system
theorem T10_solves {X : xX} {z : Nat} {c_game : (Nat → Int32)} {c_rows : Int32} {c_columns : Int32} {c_isFound : Int32} {c_bestValue : Int64} {c_bestBelow : Int64} {c_bestShare : (Nat → Int64)} {c_share : (Nat → Int64)} {c_matrix : (Nat → Int64)} {c_system : (Nat → Int64)} {c_thrown : Int32} {c_told : (Nat → Int32)} {c_read : (Nat → Int32)} {c_many : (Nat → Int32)} {c_eights : (Nat → Int32)} {c_gains : (Nat → Int32)} {c_notes : (Nat → Int32)} {c_seen : (Nat → Int32)} {c_turns : (Nat → Int32)} {c_drawn : (Nat → Int32)} {c_state : Int32} {c_tape : (Nat → Int32)} {c_taped : Int32} {c_size : Int32} {c_from : Int32} {c_next : Int32} {c_token : Int32} {c_value : Int32} {c_fault : Int32} {c_number : Int32} {c_fives : (Nat → Int32)} {c_isLeft : (Nat → Int32)} {c_wentTimes : Int32} {c_goes : (Nat → Int32)} {c_isLeftLaid : Int32} {c_shares : (Nat → Int32)} {c_allShares : Int32} {v : Int32 × Int64 × Int64 × (Nat → Int64) × (Nat → Int64) × (Nat → Int64) × (Nat → Int64)} (hX : xIs (j10_solves) X none none (hM c_thrown c_told c_read c_many c_eights c_gains c_notes c_seen c_turns c_drawn c_state c_tape c_taped c_size c_from c_next c_token c_value c_fault c_number c_fives c_isLeft c_wentTimes c_goes c_isLeftLaid c_game c_rows c_columns v.1 v.2.1 v.2.2.1 v.2.2.2.1 v.2.2.2.2.1 v.2.2.2.2.2.1 v.2.2.2.2.2.2 c_shares c_allShares)) (hf : F10_solves z c_game c_rows c_columns c_isFound c_bestValue c_bestBelow c_bestShare c_share c_matrix c_system = some v) : xV (j10_solves) X 0 0 (hM c_thrown c_told c_read c_many c_eights c_gains c_notes c_seen c_turns c_drawn c_state c_tape c_taped c_size c_from c_next c_token c_value c_fault c_number c_fives c_isLeft c_wentTimes c_goes c_isLeftLaid c_game c_rows c_columns c_isFound c_bestValue c_bestBelow c_bestShare c_share c_matrix c_system c_shares c_allShares) 0 [(0, .ref 0)] [] := by
  unfold F10_solves at hf
  refine xV_aload_n 1 rfl dX10_solves_0 rfl 0 rfl ?_
  refine xV_iconst 2 rfl dX10_solves_1 xk_i0 ?_
  refine xV_put (h' := (hM c_thrown c_told c_read c_many c_eights c_gains c_notes c_seen c_turns c_drawn c_state c_tape c_taped c_size c_from c_next c_token c_value c_fault c_number c_fives c_isLeft c_wentTimes c_goes c_isLeftLaid c_game c_rows c_columns (0 : Int32) c_bestValue c_bestBelow c_bestShare c_share c_matrix c_system c_shares c_allShares)) 5 rfl dX10_solves_2 f10_292 rfl nf10_28 (fun _ => rfl) (fun _ => rfl) (Nat.le_of_ble_eq_true rfl) rfl ?_
  refine xV_iconst 6 rfl dX10_solves_5 xk_i1 ?_
  refine xV_istore_n (L' := [(1, .int (1 : Int32)), (0, .ref 0)]) 7 rfl dX10_solves_6 rfl (xlt rfl) rfl ?_
  refine xV_sub [1, 0] rfl ?_
  exact T10_solves_b7 hX _ hf
theorem C10_solves (l : Launch) {z : Nat} {c_game : (Nat → Int32)} {c_rows : Int32} {c_columns : Int32} {c_isFound : Int32} {c_bestValue : Int64} {c_bestBelow : Int64} {c_bestShare : (Nat → Int64)} {c_share : (Nat → Int64)} {c_matrix : (Nat → Int64)} {c_system : (Nat → Int64)} {c_thrown : Int32} {c_told : (Nat → Int32)} {c_read : (Nat → Int32)} {c_many : (Nat → Int32)} {c_eights : (Nat → Int32)} {c_gains : (Nat → Int32)} {c_notes : (Nat → Int32)} {c_seen : (Nat → Int32)} {c_turns : (Nat → Int32)} {c_drawn : (Nat → Int32)} {c_state : Int32} {c_tape : (Nat → Int32)} {c_taped : Int32} {c_size : Int32} {c_from : Int32} {c_next : Int32} {c_token : Int32} {c_value : Int32} {c_fault : Int32} {c_number : Int32} {c_fives : (Nat → Int32)} {c_isLeft : (Nat → Int32)} {c_wentTimes : Int32} {c_goes : (Nat → Int32)} {c_isLeftLaid : Int32} {c_shares : (Nat → Int32)} {c_allShares : Int32} {v : Int32 × Int64 × Int64 × (Nat → Int64) × (Nat → Int64) × (Nat → Int64) × (Nat → Int64)} (hf : F10_solves z c_game c_rows c_columns c_isFound c_bestValue c_bestBelow c_bestShare c_share c_matrix c_system = some v) : xCt l yX10_solves none j10_solves [.ref 0] (hM c_thrown c_told c_read c_many c_eights c_gains c_notes c_seen c_turns c_drawn c_state c_tape c_taped c_size c_from c_next c_token c_value c_fault c_number c_fives c_isLeft c_wentTimes c_goes c_isLeftLaid c_game c_rows c_columns c_isFound c_bestValue c_bestBelow c_bestShare c_share c_matrix c_system c_shares c_allShares) none (hM c_thrown c_told c_read c_many c_eights c_gains c_notes c_seen c_turns c_drawn c_state c_tape c_taped c_size c_from c_next c_token c_value c_fault c_number c_fives c_isLeft c_wentTimes c_goes c_isLeftLaid c_game c_rows c_columns v.1 v.2.1 v.2.2.1 v.2.2.2.1 v.2.2.2.2.1 v.2.2.2.2.2.1 v.2.2.2.2.2.2 c_shares c_allShares) := xCt_of (by decide) rfl (Nat.le_of_ble_eq_true rfl) (fun _ hX => T10_solves hX hf)
theorem m10_solves : xMd yX10_solves RX10 none j10_solves 0 := ⟨List.mem_of_getElem? (i := 942) (by decide +kernel), List.mem_of_getElem? (i := 5) (by decide +kernel), rfl, by decide +kernel⟩
theorem v10_solves : xMv yX10_solves RX10 := ⟨List.mem_of_getElem? (i := 940) (by decide +kernel), List.mem_of_getElem? (i := 941) (by decide +kernel)⟩
theorem dX10_divisor_0 : decode cX10_divisor 0 = .ok (.lload_n 0, 1) := by decide +kernel
theorem dX10_divisor_1 : decode cX10_divisor 1 = .ok (.lconst 0, 1) := by decide +kernel
theorem dX10_divisor_2 : decode cX10_divisor 2 = .ok (.lcmp, 1) := by decide +kernel
theorem dX10_divisor_3 : decode cX10_divisor 3 = .ok (.ifCond .ge 8, 3) := by decide +kernel
theorem dX10_divisor_6 : decode cX10_divisor 6 = .ok (.lload_n 0, 1) := by decide +kernel
theorem dX10_divisor_7 : decode cX10_divisor 7 = .ok (.lneg, 1) := by decide +kernel
theorem dX10_divisor_8 : decode cX10_divisor 8 = .ok (.goto 4, 3) := by decide +kernel
theorem dX10_divisor_11 : decode cX10_divisor 11 = .ok (.lload_n 0, 1) := by decide +kernel
theorem dX10_divisor_12 : decode cX10_divisor 12 = .ok (.lstore 4, 2) := by decide +kernel
theorem dX10_divisor_14 : decode cX10_divisor 14 = .ok (.lload_n 2, 1) := by decide +kernel
theorem dX10_divisor_15 : decode cX10_divisor 15 = .ok (.lstore 6, 2) := by decide +kernel
theorem dX10_divisor_17 : decode cX10_divisor 17 = .ok (.lload 6, 2) := by decide +kernel
theorem dX10_divisor_19 : decode cX10_divisor 19 = .ok (.lconst 0, 1) := by decide +kernel
theorem dX10_divisor_20 : decode cX10_divisor 20 = .ok (.lcmp, 1) := by decide +kernel
theorem dX10_divisor_21 : decode cX10_divisor 21 = .ok (.ifCond .eq 21, 3) := by decide +kernel
theorem dX10_divisor_24 : decode cX10_divisor 24 = .ok (.lload 4, 2) := by decide +kernel
theorem dX10_divisor_26 : decode cX10_divisor 26 = .ok (.lload 6, 2) := by decide +kernel
theorem dX10_divisor_28 : decode cX10_divisor 28 = .ok (.lrem, 1) := by decide +kernel
theorem dX10_divisor_29 : decode cX10_divisor 29 = .ok (.lstore 8, 2) := by decide +kernel
theorem dX10_divisor_31 : decode cX10_divisor 31 = .ok (.lload 6, 2) := by decide +kernel
theorem dX10_divisor_33 : decode cX10_divisor 33 = .ok (.lstore 4, 2) := by decide +kernel
theorem dX10_divisor_35 : decode cX10_divisor 35 = .ok (.lload 8, 2) := by decide +kernel
theorem dX10_divisor_37 : decode cX10_divisor 37 = .ok (.lstore 6, 2) := by decide +kernel
theorem dX10_divisor_39 : decode cX10_divisor 39 = .ok (.goto (-22), 3) := by decide +kernel
theorem dX10_divisor_42 : decode cX10_divisor 42 = .ok (.lload 4, 2) := by decide +kernel
theorem dX10_divisor_44 : decode cX10_divisor 44 = .ok (.lreturn, 1) := by decide +kernel
abbrev j10_divisor : xJ := (cX10_divisor, 10, RX10, 1, 0, 0)
def F10_divisor_b42 (z : Nat) (x4 : Int64) : Option (Int64) :=
  some (x4)
theorem T10_divisor_b42 {X : xX}  {x4 : Int64} {z : Nat} {v : Int64} (hX : xIs (j10_divisor) X ((some .long)) (some (.long v)) ([] : xHp)) (hf : F10_divisor_b42 z x4 = some v) : xV (j10_divisor) X 0 0 ([] : xHp) 42 [(4, .long x4)] [] := by
  unfold F10_divisor_b42 at hf
  refine xV_lload 44 rfl dX10_divisor_42 0 rfl ?_
  obtain rfl := Option.some.inj hf
  exact xV_lret hX dX10_divisor_44 (Nat.zero_le _) (Nat.zero_le _)
def F10_divisor_b17 (z : Nat) (w : Nat) (x4 : Int64) (x6 : Int64) : Option (Int64) := match w with
  | 0 => none
  | w + 1 => if (lg_cmp x6 (0 : Int64)) = 0 then (F10_divisor_b42 z x4) else (xg (xnzl x6) (F10_divisor_b17 z w x6 (x4 - x4 / x6 * x6)))
theorem T10_divisor_b17 {X : xX}  {z : Nat} {v : Int64} (hX : xIs (j10_divisor) X ((some .long)) (some (.long v)) ([] : xHp)) : ∀ (w : Nat) {x4 : Int64} {x6 : Int64}, F10_divisor_b17 z w x4 x6 = some v → xV (j10_divisor) X 0 0 ([] : xHp) 17 [(4, .long x4), (6, .long x6)] [] := by
  intro w
  induction w with
  | zero => intro x4 x6 hf; cases hf
  | succ w ih =>
    intro x4 x6 hf
    unfold F10_divisor_b17 at hf
    refine xV_lload 19 rfl dX10_divisor_17 1 rfl ?_
    refine xV_lconst (v := 0) 20 rfl dX10_divisor_19 (by decide) ?_
    refine xV_lcmp 21 rfl dX10_divisor_20 ?_
    refine xV_if_eq (tgt := 42) 24 rfl dX10_divisor_21 (by decide) (fun h21 => ?_) (fun h21 => ?_)
    · have hf := xif_t hf h21
      refine xV_sub [0] rfl ?_
      exact T10_divisor_b42 hX hf
    · have hf := xif_f hf h21
      refine xV_lload 26 rfl dX10_divisor_24 0 rfl ?_
      refine xV_lload 28 rfl dX10_divisor_26 1 rfl ?_
      obtain ⟨hg28, hf⟩ := xg_s hf
      refine xV_lrem 29 rfl dX10_divisor_28 (xnzl_ok hg28) ?_
      refine xV_lstore (L' := [(8, .long (x4 - x4 / x6 * x6)), (4, .long x4), (6, .long x6)]) 31 rfl dX10_divisor_29 (xlt rfl) rfl ?_
      refine xV_lload 33 rfl dX10_divisor_31 2 rfl ?_
      refine xV_lstore (L' := [(4, .long x6), (8, .long (x4 - x4 / x6 * x6)), (6, .long x6)]) 35 rfl dX10_divisor_33 (xlt rfl) rfl ?_
      refine xV_lload 37 rfl dX10_divisor_35 1 rfl ?_
      refine xV_lstore (L' := [(6, .long (x4 - x4 / x6 * x6)), (4, .long x6), (8, .long (x4 - x4 / x6 * x6))]) 39 rfl dX10_divisor_37 (xlt rfl) rfl ?_
      refine xV_goto (tgt := 17) dX10_divisor_39 (by decide) ?_
      refine xV_sub [1, 0] rfl ?_
      exact ih hf
def F10_divisor_b12 (z : Nat) (x2 : Int64) (s0 : Int64) : Option (Int64) :=
  F10_divisor_b17 z z s0 x2
theorem T10_divisor_b12 {X : xX}  {x2 : Int64} {s0 : Int64} {z : Nat} {v : Int64} (hX : xIs (j10_divisor) X ((some .long)) (some (.long v)) ([] : xHp)) (hf : F10_divisor_b12 z x2 s0 = some v) : xV (j10_divisor) X 0 0 ([] : xHp) 12 [(2, .long x2)] [.long s0] := by
  unfold F10_divisor_b12 at hf
  refine xV_lstore (L' := [(4, .long s0), (2, .long x2)]) 14 rfl dX10_divisor_12 (xlt rfl) rfl ?_
  refine xV_lload_n 15 rfl dX10_divisor_14 rfl 1 rfl ?_
  refine xV_lstore (L' := [(6, .long x2), (4, .long s0), (2, .long x2)]) 17 rfl dX10_divisor_15 (xlt rfl) rfl ?_
  refine xV_sub [1, 0] rfl ?_
  exact T10_divisor_b17 hX _ hf
def F10_divisor (z : Nat) (x0 : Int64) (x2 : Int64) : Option (Int64) :=
  if 0 ≤ (lg_cmp x0 (0 : Int64)) then (F10_divisor_b12 z x2 x0) else (F10_divisor_b12 z x2 (-x0))
theorem T10_divisor {X : xX} {z : Nat} {x0 : Int64} {x2 : Int64}  {v : Int64} (hX : xIs (j10_divisor) X ((some .long)) (some (.long v)) ([] : xHp)) (hf : F10_divisor z x0 x2 = some v) : xV (j10_divisor) X 0 0 ([] : xHp) 0 [(0, .long x0), (2, .long x2)] [] := by
  unfold F10_divisor at hf
  refine xV_lload_n 1 rfl dX10_divisor_0 rfl 0 rfl ?_
  refine xV_lconst (v := 0) 2 rfl dX10_divisor_1 (by decide) ?_
  refine xV_lcmp 3 rfl dX10_divisor_2 ?_
  refine xV_if_ge (tgt := 11) 6 rfl dX10_divisor_3 (by decide) (fun h3 => ?_) (fun h3 => ?_)
  · have hf := xif_t hf h3
    refine xV_lload_n 12 rfl dX10_divisor_11 rfl 0 rfl ?_
    refine xV_sub [1] rfl ?_
    exact T10_divisor_b12 hX hf
  · have hf := xif_f hf h3
    refine xV_lload_n 7 rfl dX10_divisor_6 rfl 0 rfl ?_
    refine xV_lneg 8 rfl dX10_divisor_7 ?_
    refine xV_goto (tgt := 12) dX10_divisor_8 (by decide) ?_
    refine xV_sub [1] rfl ?_
    exact T10_divisor_b12 hX hf
theorem C10_divisor (l : Launch) {z : Nat} {x0 : Int64} {x2 : Int64}  {v : Int64} (hf : F10_divisor z x0 x2 = some v) : xCt l yX10_divisor ((some .long)) j10_divisor [.long x0, .long x2] ([] : xHp) (some (.long v)) ([] : xHp) := xCt_of (by decide) rfl (Nat.le_of_ble_eq_true rfl) (fun _ hX => T10_divisor hX hf)
theorem m10_divisor : xMd yX10_divisor RX10 ((some .long)) j10_divisor 2 := ⟨List.mem_of_getElem? (i := 979) (by decide +kernel), List.mem_of_getElem? (i := 5) (by decide +kernel), rfl, by decide +kernel⟩
theorem s10_divisor : Cond.static yX10_divisor ∈ wsL_law0 := List.mem_of_getElem? (i := 978) (by decide +kernel)
theorem k10_308 : Cond.methodLink RX10 308 yX10_divisor ∈ wsL_law0 := List.mem_of_getElem? (i := 977) (by decide +kernel)
theorem dX10_term_0 : decode cX10_term 0 = .ok (.lload_n 0, 1) := by decide +kernel
theorem dX10_term_1 : decode cX10_term 1 = .ok (.lload_n 2, 1) := by decide +kernel
theorem dX10_term_2 : decode cX10_term 2 = .ok (.invokestatic 308, 3) := by decide +kernel
theorem dX10_term_5 : decode cX10_term 5 = .ok (.lstore 5, 2) := by decide +kernel
theorem dX10_term_7 : decode cX10_term 7 = .ok (.iload 4, 2) := by decide +kernel
theorem dX10_term_9 : decode cX10_term 9 = .ok (.ifCond .ne 7, 3) := by decide +kernel
theorem dX10_term_12 : decode cX10_term 12 = .ok (.lload_n 0, 1) := by decide +kernel
theorem dX10_term_13 : decode cX10_term 13 = .ok (.goto 4, 3) := by decide +kernel
theorem dX10_term_16 : decode cX10_term 16 = .ok (.lload_n 2, 1) := by decide +kernel
theorem dX10_term_17 : decode cX10_term 17 = .ok (.lload 5, 2) := by decide +kernel
theorem dX10_term_19 : decode cX10_term 19 = .ok (.ldiv, 1) := by decide +kernel
theorem dX10_term_20 : decode cX10_term 20 = .ok (.l2i, 1) := by decide +kernel
theorem dX10_term_21 : decode cX10_term 21 = .ok (.ireturn, 1) := by decide +kernel
abbrev j10_term : xJ := (cX10_term, 7, RX10, 2, 0, 0)
def F10_term_b17 (z : Nat) (x5 : Int64) (s0 : Int64) : Option (Int32) :=
  xg (xnzl x5) (some (((s0 / x5)).toInt32))
theorem T10_term_b17 {X : xX}  {x5 : Int64} {s0 : Int64} {z : Nat} {v : Int32} (hX : xIs (j10_term) X ((some .int)) (some (.int v)) ([] : xHp)) (hf : F10_term_b17 z x5 s0 = some v) : xV (j10_term) X 0 0 ([] : xHp) 17 [(5, .long x5)] [.long s0] := by
  unfold F10_term_b17 at hf
  refine xV_lload 19 rfl dX10_term_17 0 rfl ?_
  obtain ⟨hg19, hf⟩ := xg_s hf
  refine xV_ldiv 20 rfl dX10_term_19 (xnzl_ok hg19) ?_
  refine xV_l2i 21 rfl dX10_term_20 ?_
  obtain rfl := Option.some.inj hf
  exact xV_iret hX dX10_term_21 rfl (Nat.zero_le _) (Nat.zero_le _)
def F10_term (z : Nat) (x0 : Int64) (x2 : Int64) (x4 : Int32) : Option (Int32) :=
  (F10_divisor z x0 x2).bind (fun v2 => if x4 = 0 then (F10_term_b17 z v2 x0) else (F10_term_b17 z v2 x2))
theorem T10_term {X : xX} {z : Nat} {x0 : Int64} {x2 : Int64} {x4 : Int32}  {v : Int32} (hX : xIs (j10_term) X ((some .int)) (some (.int v)) ([] : xHp)) (hf : F10_term z x0 x2 x4 = some v) : xV (j10_term) X 0 0 ([] : xHp) 0 [(0, .long x0), (2, .long x2), (4, .int x4)] [] := by
  unfold F10_term at hf
  refine xV_lload_n 1 rfl dX10_term_0 rfl 0 rfl ?_
  refine xV_lload_n 2 rfl dX10_term_1 rfl 1 rfl ?_
  obtain ⟨v2, hv2, hf⟩ := xb_s hf
  refine xV_st0 (rest := []) 5 rfl dX10_term_2 rfl (C10_divisor X.1.2.1 hv2) m10_divisor s10_divisor k10_308 rfl (Nat.le_of_ble_eq_true rfl) (Nat.le_of_ble_eq_true rfl) (Nat.le_of_ble_eq_true rfl) ⟨Nat.le_refl _, Nat.le_refl _⟩ ?_
  show xV (j10_term) X 0 0 ([] : xHp) 5 [(0, .long x0), (2, .long x2), (4, .int x4)] [.long v2]
  refine xV_lstore (L' := [(5, .long v2), (0, .long x0), (2, .long x2), (4, .int x4)]) 7 rfl dX10_term_5 (xlt rfl) rfl ?_
  refine xV_iload 9 rfl dX10_term_7 3 rfl ?_
  refine xV_if_ne (tgt := 16) 12 rfl dX10_term_9 (by decide) (fun h9 => ?_) (fun h9 => ?_)
  · have hf := xif_f hf h9
    refine xV_lload_n 17 rfl dX10_term_16 rfl 2 rfl ?_
    refine xV_sub [0] rfl ?_
    exact T10_term_b17 hX hf
  · have hf := xif_t hf h9
    refine xV_lload_n 13 rfl dX10_term_12 rfl 1 rfl ?_
    refine xV_goto (tgt := 17) dX10_term_13 (by decide) ?_
    refine xV_sub [0] rfl ?_
    exact T10_term_b17 hX hf
theorem C10_term (l : Launch) {z : Nat} {x0 : Int64} {x2 : Int64} {x4 : Int32}  {v : Int32} (hf : F10_term z x0 x2 x4 = some v) : xCt l yX10_term ((some .int)) j10_term [.long x0, .long x2, .int x4] ([] : xHp) (some (.int v)) ([] : xHp) := xCt_of (by decide) rfl (Nat.le_of_ble_eq_true rfl) (fun _ hX => T10_term hX hf)
theorem m10_term : xMd yX10_term RX10 ((some .int)) j10_term 3 := ⟨List.mem_of_getElem? (i := 976) (by decide +kernel), List.mem_of_getElem? (i := 5) (by decide +kernel), rfl, by decide +kernel⟩
theorem s10_term : Cond.static yX10_term ∈ wsL_law0 := List.mem_of_getElem? (i := 975) (by decide +kernel)
theorem dX10_isBooked_0 : decode cX10_isBooked 0 = .ok (.iconst 0, 1) := by decide +kernel
theorem dX10_isBooked_1 : decode cX10_isBooked 1 = .ok (.istore_n 3, 1) := by decide +kernel
theorem dX10_isBooked_2 : decode cX10_isBooked 2 = .ok (.iconst 0, 1) := by decide +kernel
theorem dX10_isBooked_3 : decode cX10_isBooked 3 = .ok (.istore 4, 2) := by decide +kernel
theorem dX10_isBooked_5 : decode cX10_isBooked 5 = .ok (.iload 4, 2) := by decide +kernel
theorem dX10_isBooked_7 : decode cX10_isBooked 7 = .ok (.aload_n 0, 1) := by decide +kernel
theorem dX10_isBooked_8 : decode cX10_isBooked 8 = .ok (.iload_n 1, 1) := by decide +kernel
theorem dX10_isBooked_9 : decode cX10_isBooked 9 = .ok (.invokevirtual 259, 3) := by decide +kernel
theorem dX10_isBooked_12 : decode cX10_isBooked 12 = .ok (.if_icmp .ge 30, 3) := by decide +kernel
theorem dX10_isBooked_15 : decode cX10_isBooked 15 = .ok (.iload_n 3, 1) := by decide +kernel
theorem dX10_isBooked_16 : decode cX10_isBooked 16 = .ok (.ifCond .ne 14, 3) := by decide +kernel
theorem dX10_isBooked_19 : decode cX10_isBooked 19 = .ok (.aload_n 0, 1) := by decide +kernel
theorem dX10_isBooked_20 : decode cX10_isBooked 20 = .ok (.iload_n 1, 1) := by decide +kernel
theorem dX10_isBooked_21 : decode cX10_isBooked 21 = .ok (.iload 4, 2) := by decide +kernel
theorem dX10_isBooked_23 : decode cX10_isBooked 23 = .ok (.invokevirtual 266, 3) := by decide +kernel
theorem dX10_isBooked_26 : decode cX10_isBooked 26 = .ok (.iload_n 2, 1) := by decide +kernel
theorem dX10_isBooked_27 : decode cX10_isBooked 27 = .ok (.if_icmp .ne 7, 3) := by decide +kernel
theorem dX10_isBooked_30 : decode cX10_isBooked 30 = .ok (.iconst 1, 1) := by decide +kernel
theorem dX10_isBooked_31 : decode cX10_isBooked 31 = .ok (.goto 4, 3) := by decide +kernel
theorem dX10_isBooked_34 : decode cX10_isBooked 34 = .ok (.iconst 0, 1) := by decide +kernel
theorem dX10_isBooked_35 : decode cX10_isBooked 35 = .ok (.istore_n 3, 1) := by decide +kernel
theorem dX10_isBooked_36 : decode cX10_isBooked 36 = .ok (.iinc 4 1, 3) := by decide +kernel
theorem dX10_isBooked_39 : decode cX10_isBooked 39 = .ok (.goto (-34), 3) := by decide +kernel
theorem dX10_isBooked_42 : decode cX10_isBooked 42 = .ok (.iload_n 3, 1) := by decide +kernel
theorem dX10_isBooked_43 : decode cX10_isBooked 43 = .ok (.ireturn, 1) := by decide +kernel
abbrev j10_isBooked : xJ := (cX10_isBooked, 5, RX10, 4, 0, 0)
def F10_isBooked_b35 (z : Nat) (x1 : Int32) (x2 : Int32) (x4 : Int32) (s0 : Int32) (c_told : (Nat → Int32)) (c_many : (Nat → Int32)) (c_eights : (Nat → Int32)) (k5 : Int32 → Int32 → Int32 → Int32 → (Nat → Int32) → (Nat → Int32) → (Nat → Int32) → Option (Int32)) : Option (Int32) :=
  k5 x1 x2 s0 (x4 + (1 : Int32)) c_told c_many c_eights
theorem T10_isBooked_b35 {X : xX} {c_thrown : Int32} {c_read : (Nat → Int32)} {c_gains : (Nat → Int32)} {c_notes : (Nat → Int32)} {c_seen : (Nat → Int32)} {c_turns : (Nat → Int32)} {c_drawn : (Nat → Int32)} {c_state : Int32} {c_tape : (Nat → Int32)} {c_taped : Int32} {c_size : Int32} {c_from : Int32} {c_next : Int32} {c_token : Int32} {c_value : Int32} {c_fault : Int32} {c_number : Int32} {c_fives : (Nat → Int32)} {c_isLeft : (Nat → Int32)} {c_wentTimes : Int32} {c_goes : (Nat → Int32)} {c_isLeftLaid : Int32} {c_game : (Nat → Int32)} {c_rows : Int32} {c_columns : Int32} {c_isFound : Int32} {c_bestValue : Int64} {c_bestBelow : Int64} {c_bestShare : (Nat → Int64)} {c_share : (Nat → Int64)} {c_matrix : (Nat → Int64)} {c_system : (Nat → Int64)} {c_shares : (Nat → Int32)} {c_allShares : Int32} {x1 : Int32} {x2 : Int32} {x4 : Int32} {s0 : Int32} {c_told : (Nat → Int32)} {c_many : (Nat → Int32)} {c_eights : (Nat → Int32)} {z : Nat} {v : Int32} {k5 : Int32 → Int32 → Int32 → Int32 → (Nat → Int32) → (Nat → Int32) → (Nat → Int32) → Option (Int32)} (hX : xIs (j10_isBooked) X ((some .boolean)) (some (.int v)) (hM c_thrown c_told c_read c_many c_eights c_gains c_notes c_seen c_turns c_drawn c_state c_tape c_taped c_size c_from c_next c_token c_value c_fault c_number c_fives c_isLeft c_wentTimes c_goes c_isLeftLaid c_game c_rows c_columns c_isFound c_bestValue c_bestBelow c_bestShare c_share c_matrix c_system c_shares c_allShares)) (hk5 : ∀ {x1 : Int32} {x2 : Int32} {x3 : Int32} {x4 : Int32}, k5 x1 x2 x3 x4 c_told c_many c_eights = some v → xV (j10_isBooked) X 0 0 (hM c_thrown c_told c_read c_many c_eights c_gains c_notes c_seen c_turns c_drawn c_state c_tape c_taped c_size c_from c_next c_token c_value c_fault c_number c_fives c_isLeft c_wentTimes c_goes c_isLeftLaid c_game c_rows c_columns c_isFound c_bestValue c_bestBelow c_bestShare c_share c_matrix c_system c_shares c_allShares) 5 [(0, .ref 0), (1, .int x1), (2, .int x2), (3, .int x3), (4, .int x4)] []) (hf : F10_isBooked_b35 z x1 x2 x4 s0 c_told c_many c_eights k5 = some v) : xV (j10_isBooked) X 0 0 (hM c_thrown c_told c_read c_many c_eights c_gains c_notes c_seen c_turns c_drawn c_state c_tape c_taped c_size c_from c_next c_token c_value c_fault c_number c_fives c_isLeft c_wentTimes c_goes c_isLeftLaid c_game c_rows c_columns c_isFound c_bestValue c_bestBelow c_bestShare c_share c_matrix c_system c_shares c_allShares) 35 [(0, .ref 0), (1, .int x1), (2, .int x2), (4, .int x4)] [.int s0] := by
  unfold F10_isBooked_b35 at hf
  refine xV_istore_n (L' := [(3, .int s0), (0, .ref 0), (1, .int x1), (2, .int x2), (4, .int x4)]) 36 rfl dX10_isBooked_35 rfl (xlt rfl) rfl ?_
  refine xV_iinc (L' := [(4, .int (x4 + (1 : Int32))), (3, .int s0), (0, .ref 0), (1, .int x1), (2, .int x2)]) 39 rfl dX10_isBooked_36 4 rfl (xk_inc xk_i1) (xlt rfl) rfl ?_
  refine xV_goto (tgt := 5) dX10_isBooked_39 (by decide) ?_
  refine xV_sub [2, 3, 4, 1, 0] rfl ?_
  exact hk5 hf
def F10_isBooked_b5 (z : Nat) (w : Nat) (x1 : Int32) (x2 : Int32) (x3 : Int32) (x4 : Int32) (c_told : (Nat → Int32)) (c_many : (Nat → Int32)) (c_eights : (Nat → Int32)) : Option (Int32) := match w with
  | 0 => none
  | w + 1 => (F10_booked x1 c_told).bind (fun v9 => if v9 ≤ x4 then (xg (xbo x3) (some (x3))) else (if x3 = 0 then ((F10_bookAt z x1 x4 c_told c_many c_eights).bind (fun v23 => if v23 = x2 then (F10_isBooked_b35 z x1 x2 x4 (1 : Int32) c_told c_many c_eights (fun q0 q1 q2 q3 q4 q5 q6 => F10_isBooked_b5 z w q0 q1 q2 q3 q4 q5 q6)) else (F10_isBooked_b35 z x1 x2 x4 (0 : Int32) c_told c_many c_eights (fun q0 q1 q2 q3 q4 q5 q6 => F10_isBooked_b5 z w q0 q1 q2 q3 q4 q5 q6)))) else (F10_isBooked_b35 z x1 x2 x4 (1 : Int32) c_told c_many c_eights (fun q0 q1 q2 q3 q4 q5 q6 => F10_isBooked_b5 z w q0 q1 q2 q3 q4 q5 q6))))
theorem T10_isBooked_b5 {X : xX} {c_thrown : Int32} {c_told : (Nat → Int32)} {c_read : (Nat → Int32)} {c_many : (Nat → Int32)} {c_eights : (Nat → Int32)} {c_gains : (Nat → Int32)} {c_notes : (Nat → Int32)} {c_seen : (Nat → Int32)} {c_turns : (Nat → Int32)} {c_drawn : (Nat → Int32)} {c_state : Int32} {c_tape : (Nat → Int32)} {c_taped : Int32} {c_size : Int32} {c_from : Int32} {c_next : Int32} {c_token : Int32} {c_value : Int32} {c_fault : Int32} {c_number : Int32} {c_fives : (Nat → Int32)} {c_isLeft : (Nat → Int32)} {c_wentTimes : Int32} {c_goes : (Nat → Int32)} {c_isLeftLaid : Int32} {c_game : (Nat → Int32)} {c_rows : Int32} {c_columns : Int32} {c_isFound : Int32} {c_bestValue : Int64} {c_bestBelow : Int64} {c_bestShare : (Nat → Int64)} {c_share : (Nat → Int64)} {c_matrix : (Nat → Int64)} {c_system : (Nat → Int64)} {c_shares : (Nat → Int32)} {c_allShares : Int32} {z : Nat} {v : Int32} (hX : xIs (j10_isBooked) X ((some .boolean)) (some (.int v)) (hM c_thrown c_told c_read c_many c_eights c_gains c_notes c_seen c_turns c_drawn c_state c_tape c_taped c_size c_from c_next c_token c_value c_fault c_number c_fives c_isLeft c_wentTimes c_goes c_isLeftLaid c_game c_rows c_columns c_isFound c_bestValue c_bestBelow c_bestShare c_share c_matrix c_system c_shares c_allShares)) : ∀ (w : Nat) {x1 : Int32} {x2 : Int32} {x3 : Int32} {x4 : Int32}, F10_isBooked_b5 z w x1 x2 x3 x4 c_told c_many c_eights = some v → xV (j10_isBooked) X 0 0 (hM c_thrown c_told c_read c_many c_eights c_gains c_notes c_seen c_turns c_drawn c_state c_tape c_taped c_size c_from c_next c_token c_value c_fault c_number c_fives c_isLeft c_wentTimes c_goes c_isLeftLaid c_game c_rows c_columns c_isFound c_bestValue c_bestBelow c_bestShare c_share c_matrix c_system c_shares c_allShares) 5 [(0, .ref 0), (1, .int x1), (2, .int x2), (3, .int x3), (4, .int x4)] [] := by
  intro w
  induction w with
  | zero => intro x1 x2 x3 x4 hf; cases hf
  | succ w ih =>
    intro x1 x2 x3 x4 hf
    unfold F10_isBooked_b5 at hf
    refine xV_iload 7 rfl dX10_isBooked_5 4 rfl ?_
    refine xV_aload_n 8 rfl dX10_isBooked_7 rfl 0 rfl ?_
    refine xV_iload_n 9 rfl dX10_isBooked_8 rfl 1 rfl ?_
    obtain ⟨v9, hv9, hf⟩ := xb_s hf
    refine xV_same (rest := [.int x4]) 12 rfl dX10_isBooked_9 rfl (C10_booked X.1.2.1 hv9) m10_booked v10_booked k10_259 rfl rfl rfl rfl rfl (Nat.le_of_ble_eq_true rfl) (Nat.le_of_ble_eq_true rfl) (Nat.le_of_ble_eq_true rfl) ⟨Nat.le_refl _, Nat.le_refl _⟩ ?_
    show xV (j10_isBooked) X 0 0 (hM c_thrown c_told c_read c_many c_eights c_gains c_notes c_seen c_turns c_drawn c_state c_tape c_taped c_size c_from c_next c_token c_value c_fault c_number c_fives c_isLeft c_wentTimes c_goes c_isLeftLaid c_game c_rows c_columns c_isFound c_bestValue c_bestBelow c_bestShare c_share c_matrix c_system c_shares c_allShares) 12 [(0, .ref 0), (1, .int x1), (2, .int x2), (3, .int x3), (4, .int x4)] [.int v9, .int x4]
    refine xV_icmp_ge (tgt := 42) 15 rfl dX10_isBooked_12 (by decide) (fun h12 => ?_) (fun h12 => ?_)
    · have hf := xif_t hf h12
      refine xV_iload_n 43 rfl dX10_isBooked_42 rfl 3 rfl ?_
      obtain ⟨hgr, hf⟩ := xg_s hf
      obtain rfl := Option.some.inj hf
      exact xV_iret hX dX10_isBooked_43 (xbo_ok hgr) (Nat.zero_le _) (Nat.zero_le _)
    · have hf := xif_f hf h12
      refine xV_iload_n 16 rfl dX10_isBooked_15 rfl 3 rfl ?_
      refine xV_if_ne (tgt := 30) 19 rfl dX10_isBooked_16 (by decide) (fun h16 => ?_) (fun h16 => ?_)
      · have hf := xif_f hf h16
        refine xV_iconst 31 rfl dX10_isBooked_30 xk_i1 ?_
        refine xV_goto (tgt := 35) dX10_isBooked_31 (by decide) ?_
        refine xV_sub [0, 1, 2, 4] rfl ?_
        exact T10_isBooked_b35 hX (fun {_ _ _ _} hq => ih hq) hf
      · have hf := xif_t hf h16
        refine xV_aload_n 20 rfl dX10_isBooked_19 rfl 0 rfl ?_
        refine xV_iload_n 21 rfl dX10_isBooked_20 rfl 1 rfl ?_
        refine xV_iload 23 rfl dX10_isBooked_21 4 rfl ?_
        obtain ⟨v23, hv23, hf⟩ := xb_s hf
        refine xV_same (rest := []) 26 rfl dX10_isBooked_23 rfl (C10_bookAt X.1.2.1 hv23) m10_bookAt v10_bookAt k10_266 rfl rfl rfl rfl rfl (Nat.le_of_ble_eq_true rfl) (Nat.le_of_ble_eq_true rfl) (Nat.le_of_ble_eq_true rfl) ⟨Nat.le_refl _, Nat.le_refl _⟩ ?_
        show xV (j10_isBooked) X 0 0 (hM c_thrown c_told c_read c_many c_eights c_gains c_notes c_seen c_turns c_drawn c_state c_tape c_taped c_size c_from c_next c_token c_value c_fault c_number c_fives c_isLeft c_wentTimes c_goes c_isLeftLaid c_game c_rows c_columns c_isFound c_bestValue c_bestBelow c_bestShare c_share c_matrix c_system c_shares c_allShares) 26 [(0, .ref 0), (1, .int x1), (2, .int x2), (3, .int x3), (4, .int x4)] [.int v23]
        refine xV_iload_n 27 rfl dX10_isBooked_26 rfl 2 rfl ?_
        refine xV_icmp_ne (tgt := 34) 30 rfl dX10_isBooked_27 (by decide) (fun h27 => ?_) (fun h27 => ?_)
        · have hf := xif_f hf h27
          refine xV_iconst 35 rfl dX10_isBooked_34 xk_i0 ?_
          refine xV_sub [0, 1, 2, 4] rfl ?_
          exact T10_isBooked_b35 hX (fun {_ _ _ _} hq => ih hq) hf
        · have hf := xif_t hf h27
          refine xV_iconst 31 rfl dX10_isBooked_30 xk_i1 ?_
          refine xV_goto (tgt := 35) dX10_isBooked_31 (by decide) ?_
          refine xV_sub [0, 1, 2, 4] rfl ?_
          exact T10_isBooked_b35 hX (fun {_ _ _ _} hq => ih hq) hf
def F10_isBooked (z : Nat) (x1 : Int32) (x2 : Int32) (c_told : (Nat → Int32)) (c_many : (Nat → Int32)) (c_eights : (Nat → Int32)) : Option (Int32) :=
  F10_isBooked_b5 z z x1 x2 (0 : Int32) (0 : Int32) c_told c_many c_eights
theorem T10_isBooked {X : xX} {z : Nat} {x1 : Int32} {x2 : Int32} {c_told : (Nat → Int32)} {c_many : (Nat → Int32)} {c_eights : (Nat → Int32)} {c_thrown : Int32} {c_read : (Nat → Int32)} {c_gains : (Nat → Int32)} {c_notes : (Nat → Int32)} {c_seen : (Nat → Int32)} {c_turns : (Nat → Int32)} {c_drawn : (Nat → Int32)} {c_state : Int32} {c_tape : (Nat → Int32)} {c_taped : Int32} {c_size : Int32} {c_from : Int32} {c_next : Int32} {c_token : Int32} {c_value : Int32} {c_fault : Int32} {c_number : Int32} {c_fives : (Nat → Int32)} {c_isLeft : (Nat → Int32)} {c_wentTimes : Int32} {c_goes : (Nat → Int32)} {c_isLeftLaid : Int32} {c_game : (Nat → Int32)} {c_rows : Int32} {c_columns : Int32} {c_isFound : Int32} {c_bestValue : Int64} {c_bestBelow : Int64} {c_bestShare : (Nat → Int64)} {c_share : (Nat → Int64)} {c_matrix : (Nat → Int64)} {c_system : (Nat → Int64)} {c_shares : (Nat → Int32)} {c_allShares : Int32} {v : Int32} (hX : xIs (j10_isBooked) X ((some .boolean)) (some (.int v)) (hM c_thrown c_told c_read c_many c_eights c_gains c_notes c_seen c_turns c_drawn c_state c_tape c_taped c_size c_from c_next c_token c_value c_fault c_number c_fives c_isLeft c_wentTimes c_goes c_isLeftLaid c_game c_rows c_columns c_isFound c_bestValue c_bestBelow c_bestShare c_share c_matrix c_system c_shares c_allShares)) (hf : F10_isBooked z x1 x2 c_told c_many c_eights = some v) : xV (j10_isBooked) X 0 0 (hM c_thrown c_told c_read c_many c_eights c_gains c_notes c_seen c_turns c_drawn c_state c_tape c_taped c_size c_from c_next c_token c_value c_fault c_number c_fives c_isLeft c_wentTimes c_goes c_isLeftLaid c_game c_rows c_columns c_isFound c_bestValue c_bestBelow c_bestShare c_share c_matrix c_system c_shares c_allShares) 0 [(0, .ref 0), (1, .int x1), (2, .int x2)] [] := by
  unfold F10_isBooked at hf
  refine xV_iconst 1 rfl dX10_isBooked_0 xk_i0 ?_
  refine xV_istore_n (L' := [(3, .int (0 : Int32)), (0, .ref 0), (1, .int x1), (2, .int x2)]) 2 rfl dX10_isBooked_1 rfl (xlt rfl) rfl ?_
  refine xV_iconst 3 rfl dX10_isBooked_2 xk_i0 ?_
  refine xV_istore (L' := [(4, .int (0 : Int32)), (3, .int (0 : Int32)), (0, .ref 0), (1, .int x1), (2, .int x2)]) 5 rfl dX10_isBooked_3 (xlt rfl) rfl ?_
  refine xV_sub [2, 3, 4, 1, 0] rfl ?_
  exact T10_isBooked_b5 hX _ hf
theorem C10_isBooked (l : Launch) {z : Nat} {x1 : Int32} {x2 : Int32} {c_told : (Nat → Int32)} {c_many : (Nat → Int32)} {c_eights : (Nat → Int32)} {c_thrown : Int32} {c_read : (Nat → Int32)} {c_gains : (Nat → Int32)} {c_notes : (Nat → Int32)} {c_seen : (Nat → Int32)} {c_turns : (Nat → Int32)} {c_drawn : (Nat → Int32)} {c_state : Int32} {c_tape : (Nat → Int32)} {c_taped : Int32} {c_size : Int32} {c_from : Int32} {c_next : Int32} {c_token : Int32} {c_value : Int32} {c_fault : Int32} {c_number : Int32} {c_fives : (Nat → Int32)} {c_isLeft : (Nat → Int32)} {c_wentTimes : Int32} {c_goes : (Nat → Int32)} {c_isLeftLaid : Int32} {c_game : (Nat → Int32)} {c_rows : Int32} {c_columns : Int32} {c_isFound : Int32} {c_bestValue : Int64} {c_bestBelow : Int64} {c_bestShare : (Nat → Int64)} {c_share : (Nat → Int64)} {c_matrix : (Nat → Int64)} {c_system : (Nat → Int64)} {c_shares : (Nat → Int32)} {c_allShares : Int32} {v : Int32} (hf : F10_isBooked z x1 x2 c_told c_many c_eights = some v) : xCt l yX10_isBooked ((some .boolean)) j10_isBooked [.ref 0, .int x1, .int x2] (hM c_thrown c_told c_read c_many c_eights c_gains c_notes c_seen c_turns c_drawn c_state c_tape c_taped c_size c_from c_next c_token c_value c_fault c_number c_fives c_isLeft c_wentTimes c_goes c_isLeftLaid c_game c_rows c_columns c_isFound c_bestValue c_bestBelow c_bestShare c_share c_matrix c_system c_shares c_allShares) (some (.int v)) (hM c_thrown c_told c_read c_many c_eights c_gains c_notes c_seen c_turns c_drawn c_state c_tape c_taped c_size c_from c_next c_token c_value c_fault c_number c_fives c_isLeft c_wentTimes c_goes c_isLeftLaid c_game c_rows c_columns c_isFound c_bestValue c_bestBelow c_bestShare c_share c_matrix c_system c_shares c_allShares) := xCt_of (by decide) rfl (Nat.le_of_ble_eq_true rfl) (fun _ hX => T10_isBooked hX hf)
theorem m10_isBooked : xMd yX10_isBooked RX10 ((some .boolean)) j10_isBooked 2 := ⟨List.mem_of_getElem? (i := 820) (by decide +kernel), List.mem_of_getElem? (i := 5) (by decide +kernel), rfl, by decide +kernel⟩
theorem v10_isBooked : xMv yX10_isBooked RX10 := ⟨List.mem_of_getElem? (i := 818) (by decide +kernel), List.mem_of_getElem? (i := 819) (by decide +kernel)⟩
theorem k10_312 : Cond.methodLink RX10 312 yX10_isBooked ∈ wsL_law0 := List.mem_of_getElem? (i := 817) (by decide +kernel)
theorem dX10_add_0 : decode cX10_add 0 = .ok (.aload_n 0, 1) := by decide +kernel
theorem dX10_add_1 : decode cX10_add 1 = .ok (.iconst 0, 1) := by decide +kernel
theorem dX10_add_2 : decode cX10_add 2 = .ok (.putfield 1, 3) := by decide +kernel
theorem dX10_add_5 : decode cX10_add 5 = .ok (.aload_n 0, 1) := by decide +kernel
theorem dX10_add_6 : decode cX10_add 6 = .ok (.iload_n 1, 1) := by decide +kernel
theorem dX10_add_7 : decode cX10_add 7 = .ok (.iload_n 2, 1) := by decide +kernel
theorem dX10_add_8 : decode cX10_add 8 = .ok (.invokevirtual 210, 3) := by decide +kernel
theorem dX10_add_11 : decode cX10_add 11 = .ok (.ifCond .eq 22, 3) := by decide +kernel
theorem dX10_add_14 : decode cX10_add 14 = .ok (.aload_n 0, 1) := by decide +kernel
theorem dX10_add_15 : decode cX10_add 15 = .ok (.iload_n 1, 1) := by decide +kernel
theorem dX10_add_16 : decode cX10_add 16 = .ok (.invokevirtual 259, 3) := by decide +kernel
theorem dX10_add_19 : decode cX10_add 19 = .ok (.bipush 6, 2) := by decide +kernel
theorem dX10_add_21 : decode cX10_add 21 = .ok (.if_icmp .eq 12, 3) := by decide +kernel
theorem dX10_add_24 : decode cX10_add 24 = .ok (.aload_n 0, 1) := by decide +kernel
theorem dX10_add_25 : decode cX10_add 25 = .ok (.iload_n 1, 1) := by decide +kernel
theorem dX10_add_26 : decode cX10_add 26 = .ok (.iload_n 2, 1) := by decide +kernel
theorem dX10_add_27 : decode cX10_add 27 = .ok (.invokevirtual 312, 3) := by decide +kernel
theorem dX10_add_30 : decode cX10_add 30 = .ok (.ifCond .eq 5, 3) := by decide +kernel
theorem dX10_add_33 : decode cX10_add 33 = .ok (.iconst (-1), 1) := by decide +kernel
theorem dX10_add_34 : decode cX10_add 34 = .ok (.ireturn, 1) := by decide +kernel
theorem dX10_add_35 : decode cX10_add 35 = .ok (.aload_n 0, 1) := by decide +kernel
theorem dX10_add_36 : decode cX10_add 36 = .ok (.getfield 17, 3) := by decide +kernel
theorem dX10_add_39 : decode cX10_add 39 = .ok (.iload_n 1, 1) := by decide +kernel
theorem dX10_add_40 : decode cX10_add 40 = .ok (.iconst 1, 1) := by decide +kernel
theorem dX10_add_41 : decode cX10_add 41 = .ok (.invokestatic 109, 3) := by decide +kernel
theorem dX10_add_44 : decode cX10_add 44 = .ok (.aload_n 0, 1) := by decide +kernel
theorem dX10_add_45 : decode cX10_add 45 = .ok (.iload_n 1, 1) := by decide +kernel
theorem dX10_add_46 : decode cX10_add 46 = .ok (.invokevirtual 259, 3) := by decide +kernel
theorem dX10_add_49 : decode cX10_add 49 = .ok (.iadd, 1) := by decide +kernel
theorem dX10_add_50 : decode cX10_add 50 = .ok (.aload_n 0, 1) := by decide +kernel
theorem dX10_add_51 : decode cX10_add 51 = .ok (.iload_n 1, 1) := by decide +kernel
theorem dX10_add_52 : decode cX10_add 52 = .ok (.iload_n 2, 1) := by decide +kernel
theorem dX10_add_53 : decode cX10_add 53 = .ok (.invokevirtual 86, 3) := by decide +kernel
theorem dX10_add_56 : decode cX10_add 56 = .ok (.iastore, 1) := by decide +kernel
theorem dX10_add_57 : decode cX10_add 57 = .ok (.aload_n 0, 1) := by decide +kernel
theorem dX10_add_58 : decode cX10_add 58 = .ok (.getfield 17, 3) := by decide +kernel
theorem dX10_add_61 : decode cX10_add 61 = .ok (.iload_n 1, 1) := by decide +kernel
theorem dX10_add_62 : decode cX10_add 62 = .ok (.iconst 0, 1) := by decide +kernel
theorem dX10_add_63 : decode cX10_add 63 = .ok (.invokestatic 109, 3) := by decide +kernel
theorem dX10_add_66 : decode cX10_add 66 = .ok (.dup2, 1) := by decide +kernel
theorem dX10_add_67 : decode cX10_add 67 = .ok (.iaload, 1) := by decide +kernel
theorem dX10_add_68 : decode cX10_add 68 = .ok (.iconst 1, 1) := by decide +kernel
theorem dX10_add_69 : decode cX10_add 69 = .ok (.iadd, 1) := by decide +kernel
theorem dX10_add_70 : decode cX10_add 70 = .ok (.iastore, 1) := by decide +kernel
theorem dX10_add_71 : decode cX10_add 71 = .ok (.aload_n 0, 1) := by decide +kernel
theorem dX10_add_72 : decode cX10_add 72 = .ok (.iload_n 1, 1) := by decide +kernel
theorem dX10_add_73 : decode cX10_add 73 = .ok (.invokevirtual 259, 3) := by decide +kernel
theorem dX10_add_76 : decode cX10_add 76 = .ok (.ireturn, 1) := by decide +kernel
abbrev j10_add : xJ := (cX10_add, 3, RX10, 5, 0, 0)
def F10_add (z : Nat) (x1 : Int32) (x2 : Int32) (c_thrown : Int32) (c_told : (Nat → Int32)) (c_many : (Nat → Int32)) (c_eights : (Nat → Int32)) : Option (Int32 × Int32 × (Nat → Int32)) :=
  (F10_isSplit x1 x2 c_many).bind (fun v8 => if v8 = 0 then (some ((-1 : Int32), (0 : Int32), c_told)) else ((F10_booked x1 c_told).bind (fun v16 => if v16 = (6 : Int32) then (some ((-1 : Int32), (0 : Int32), c_told)) else ((F10_isBooked z x1 x2 c_told c_many c_eights).bind (fun v27 => if v27 = 0 then ((F10_at x1 (1 : Int32)).bind (fun v41 => (F10_booked x1 c_told).bind (fun v46 => (F10_eightsOf x1 x2 c_eights).bind (fun v53 => xg (xin (v41 + v46) 56) ((F10_at x1 (0 : Int32)).bind (fun v63 => xg (xin v63 56) (xg (xin v63 56) ((F10_booked x1 (upd (upd c_told (xn (v41 + v46)) v53) (xn v63) (((upd c_told (xn (v41 + v46)) v53) (xn v63)) + (1 : Int32)))).bind (fun v73 => some (v73, (0 : Int32), (upd (upd c_told (xn (v41 + v46)) v53) (xn v63) (((upd c_told (xn (v41 + v46)) v53) (xn v63)) + (1 : Int32))))))))))))) else (some ((-1 : Int32), (0 : Int32), c_told)))))))
theorem T10_add {X : xX} {z : Nat} {x1 : Int32} {x2 : Int32} {c_thrown : Int32} {c_told : (Nat → Int32)} {c_many : (Nat → Int32)} {c_eights : (Nat → Int32)} {c_read : (Nat → Int32)} {c_gains : (Nat → Int32)} {c_notes : (Nat → Int32)} {c_seen : (Nat → Int32)} {c_turns : (Nat → Int32)} {c_drawn : (Nat → Int32)} {c_state : Int32} {c_tape : (Nat → Int32)} {c_taped : Int32} {c_size : Int32} {c_from : Int32} {c_next : Int32} {c_token : Int32} {c_value : Int32} {c_fault : Int32} {c_number : Int32} {c_fives : (Nat → Int32)} {c_isLeft : (Nat → Int32)} {c_wentTimes : Int32} {c_goes : (Nat → Int32)} {c_isLeftLaid : Int32} {c_game : (Nat → Int32)} {c_rows : Int32} {c_columns : Int32} {c_isFound : Int32} {c_bestValue : Int64} {c_bestBelow : Int64} {c_bestShare : (Nat → Int64)} {c_share : (Nat → Int64)} {c_matrix : (Nat → Int64)} {c_system : (Nat → Int64)} {c_shares : (Nat → Int32)} {c_allShares : Int32} {v : Int32 × Int32 × (Nat → Int32)} (hX : xIs (j10_add) X ((some .int)) (some (.int v.1)) (hM v.2.1 v.2.2 c_read c_many c_eights c_gains c_notes c_seen c_turns c_drawn c_state c_tape c_taped c_size c_from c_next c_token c_value c_fault c_number c_fives c_isLeft c_wentTimes c_goes c_isLeftLaid c_game c_rows c_columns c_isFound c_bestValue c_bestBelow c_bestShare c_share c_matrix c_system c_shares c_allShares)) (hf : F10_add z x1 x2 c_thrown c_told c_many c_eights = some v) : xV (j10_add) X 0 0 (hM c_thrown c_told c_read c_many c_eights c_gains c_notes c_seen c_turns c_drawn c_state c_tape c_taped c_size c_from c_next c_token c_value c_fault c_number c_fives c_isLeft c_wentTimes c_goes c_isLeftLaid c_game c_rows c_columns c_isFound c_bestValue c_bestBelow c_bestShare c_share c_matrix c_system c_shares c_allShares) 0 [(0, .ref 0), (1, .int x1), (2, .int x2)] [] := by
  unfold F10_add at hf
  refine xV_aload_n 1 rfl dX10_add_0 rfl 0 rfl ?_
  refine xV_iconst 2 rfl dX10_add_1 xk_i0 ?_
  refine xV_put (h' := (hM (0 : Int32) c_told c_read c_many c_eights c_gains c_notes c_seen c_turns c_drawn c_state c_tape c_taped c_size c_from c_next c_token c_value c_fault c_number c_fives c_isLeft c_wentTimes c_goes c_isLeftLaid c_game c_rows c_columns c_isFound c_bestValue c_bestBelow c_bestShare c_share c_matrix c_system c_shares c_allShares)) 5 rfl dX10_add_2 f10_1 rfl nf10_0 (fun _ => rfl) (fun _ => rfl) (Nat.le_of_ble_eq_true rfl) rfl ?_
  refine xV_aload_n 6 rfl dX10_add_5 rfl 0 rfl ?_
  refine xV_iload_n 7 rfl dX10_add_6 rfl 1 rfl ?_
  refine xV_iload_n 8 rfl dX10_add_7 rfl 2 rfl ?_
  obtain ⟨v8, hv8, hf⟩ := xb_s hf
  refine xV_same (rest := []) 11 rfl dX10_add_8 rfl (C10_isSplit X.1.2.1 hv8) m10_isSplit v10_isSplit k10_210 rfl rfl rfl rfl rfl (Nat.le_of_ble_eq_true rfl) (Nat.le_of_ble_eq_true rfl) (Nat.le_of_ble_eq_true rfl) ⟨Nat.le_refl _, Nat.le_refl _⟩ ?_
  show xV (j10_add) X 0 0 (hM (0 : Int32) c_told c_read c_many c_eights c_gains c_notes c_seen c_turns c_drawn c_state c_tape c_taped c_size c_from c_next c_token c_value c_fault c_number c_fives c_isLeft c_wentTimes c_goes c_isLeftLaid c_game c_rows c_columns c_isFound c_bestValue c_bestBelow c_bestShare c_share c_matrix c_system c_shares c_allShares) 11 [(0, .ref 0), (1, .int x1), (2, .int x2)] [.int v8]
  refine xV_if_eq (tgt := 33) 14 rfl dX10_add_11 (by decide) (fun h11 => ?_) (fun h11 => ?_)
  · have hf := xif_t hf h11
    refine xV_iconst 34 rfl dX10_add_33 xk_im1 ?_
    obtain rfl := Option.some.inj hf
    exact xV_iret hX dX10_add_34 rfl (Nat.zero_le _) (Nat.zero_le _)
  · have hf := xif_f hf h11
    refine xV_aload_n 15 rfl dX10_add_14 rfl 0 rfl ?_
    refine xV_iload_n 16 rfl dX10_add_15 rfl 1 rfl ?_
    obtain ⟨v16, hv16, hf⟩ := xb_s hf
    refine xV_same (rest := []) 19 rfl dX10_add_16 rfl (C10_booked X.1.2.1 hv16) m10_booked v10_booked k10_259 rfl rfl rfl rfl rfl (Nat.le_of_ble_eq_true rfl) (Nat.le_of_ble_eq_true rfl) (Nat.le_of_ble_eq_true rfl) ⟨Nat.le_refl _, Nat.le_refl _⟩ ?_
    show xV (j10_add) X 0 0 (hM (0 : Int32) c_told c_read c_many c_eights c_gains c_notes c_seen c_turns c_drawn c_state c_tape c_taped c_size c_from c_next c_token c_value c_fault c_number c_fives c_isLeft c_wentTimes c_goes c_isLeftLaid c_game c_rows c_columns c_isFound c_bestValue c_bestBelow c_bestShare c_share c_matrix c_system c_shares c_allShares) 19 [(0, .ref 0), (1, .int x1), (2, .int x2)] [.int v16]
    refine xV_bipush 21 rfl dX10_add_19 xk_b6 ?_
    refine xV_icmp_eq (tgt := 33) 24 rfl dX10_add_21 (by decide) (fun h21 => ?_) (fun h21 => ?_)
    · have hf := xif_t hf h21
      refine xV_iconst 34 rfl dX10_add_33 xk_im1 ?_
      obtain rfl := Option.some.inj hf
      exact xV_iret hX dX10_add_34 rfl (Nat.zero_le _) (Nat.zero_le _)
    · have hf := xif_f hf h21
      refine xV_aload_n 25 rfl dX10_add_24 rfl 0 rfl ?_
      refine xV_iload_n 26 rfl dX10_add_25 rfl 1 rfl ?_
      refine xV_iload_n 27 rfl dX10_add_26 rfl 2 rfl ?_
      obtain ⟨v27, hv27, hf⟩ := xb_s hf
      refine xV_same (rest := []) 30 rfl dX10_add_27 rfl (C10_isBooked X.1.2.1 hv27) m10_isBooked v10_isBooked k10_312 rfl rfl rfl rfl rfl (Nat.le_of_ble_eq_true rfl) (Nat.le_of_ble_eq_true rfl) (Nat.le_of_ble_eq_true rfl) ⟨Nat.le_refl _, Nat.le_refl _⟩ ?_
      show xV (j10_add) X 0 0 (hM (0 : Int32) c_told c_read c_many c_eights c_gains c_notes c_seen c_turns c_drawn c_state c_tape c_taped c_size c_from c_next c_token c_value c_fault c_number c_fives c_isLeft c_wentTimes c_goes c_isLeftLaid c_game c_rows c_columns c_isFound c_bestValue c_bestBelow c_bestShare c_share c_matrix c_system c_shares c_allShares) 30 [(0, .ref 0), (1, .int x1), (2, .int x2)] [.int v27]
      refine xV_if_eq (tgt := 35) 33 rfl dX10_add_30 (by decide) (fun h30 => ?_) (fun h30 => ?_)
      · have hf := xif_t hf h30
        refine xV_aload_n 36 rfl dX10_add_35 rfl 0 rfl ?_
        refine xV_get (v := .ref 1) 39 rfl dX10_add_36 f10_17 rfl rfl ?_
        refine xV_iload_n 40 rfl dX10_add_39 rfl 1 rfl ?_
        refine xV_iconst 41 rfl dX10_add_40 xk_i1 ?_
        obtain ⟨v41, hv41, hf⟩ := xb_s hf
        refine xV_st0 (rest := [.ref 1]) 44 rfl dX10_add_41 rfl (C10_at X.1.2.1 hv41) m10_at s10_at k10_109 rfl (Nat.le_of_ble_eq_true rfl) (Nat.le_of_ble_eq_true rfl) (Nat.le_of_ble_eq_true rfl) ⟨Nat.le_refl _, Nat.le_refl _⟩ ?_
        show xV (j10_add) X 0 0 (hM (0 : Int32) c_told c_read c_many c_eights c_gains c_notes c_seen c_turns c_drawn c_state c_tape c_taped c_size c_from c_next c_token c_value c_fault c_number c_fives c_isLeft c_wentTimes c_goes c_isLeftLaid c_game c_rows c_columns c_isFound c_bestValue c_bestBelow c_bestShare c_share c_matrix c_system c_shares c_allShares) 44 [(0, .ref 0), (1, .int x1), (2, .int x2)] [.int v41, .ref 1]
        refine xV_aload_n 45 rfl dX10_add_44 rfl 0 rfl ?_
        refine xV_iload_n 46 rfl dX10_add_45 rfl 1 rfl ?_
        obtain ⟨v46, hv46, hf⟩ := xb_s hf
        refine xV_same (rest := [.int v41, .ref 1]) 49 rfl dX10_add_46 rfl (C10_booked X.1.2.1 hv46) m10_booked v10_booked k10_259 rfl rfl rfl rfl rfl (Nat.le_of_ble_eq_true rfl) (Nat.le_of_ble_eq_true rfl) (Nat.le_of_ble_eq_true rfl) ⟨Nat.le_refl _, Nat.le_refl _⟩ ?_
        show xV (j10_add) X 0 0 (hM (0 : Int32) c_told c_read c_many c_eights c_gains c_notes c_seen c_turns c_drawn c_state c_tape c_taped c_size c_from c_next c_token c_value c_fault c_number c_fives c_isLeft c_wentTimes c_goes c_isLeftLaid c_game c_rows c_columns c_isFound c_bestValue c_bestBelow c_bestShare c_share c_matrix c_system c_shares c_allShares) 49 [(0, .ref 0), (1, .int x1), (2, .int x2)] [.int v46, .int v41, .ref 1]
        refine xV_iadd 50 rfl dX10_add_49 ?_
        refine xV_aload_n 51 rfl dX10_add_50 rfl 0 rfl ?_
        refine xV_iload_n 52 rfl dX10_add_51 rfl 1 rfl ?_
        refine xV_iload_n 53 rfl dX10_add_52 rfl 2 rfl ?_
        obtain ⟨v53, hv53, hf⟩ := xb_s hf
        refine xV_same (rest := [.int (v41 + v46), .ref 1]) 56 rfl dX10_add_53 rfl (C10_eightsOf X.1.2.1 hv53) m10_eightsOf v10_eightsOf k10_86 rfl rfl rfl rfl rfl (Nat.le_of_ble_eq_true rfl) (Nat.le_of_ble_eq_true rfl) (Nat.le_of_ble_eq_true rfl) ⟨Nat.le_refl _, Nat.le_refl _⟩ ?_
        show xV (j10_add) X 0 0 (hM (0 : Int32) c_told c_read c_many c_eights c_gains c_notes c_seen c_turns c_drawn c_state c_tape c_taped c_size c_from c_next c_token c_value c_fault c_number c_fives c_isLeft c_wentTimes c_goes c_isLeftLaid c_game c_rows c_columns c_isFound c_bestValue c_bestBelow c_bestShare c_share c_matrix c_system c_shares c_allShares) 56 [(0, .ref 0), (1, .int x1), (2, .int x2)] [.int v53, .int (v41 + v46), .ref 1]
        obtain ⟨hg56, hf⟩ := xg_s hf
        refine xV_iastore (h' := (hM (0 : Int32) (upd c_told (xn (v41 + v46)) v53) c_read c_many c_eights c_gains c_notes c_seen c_turns c_drawn c_state c_tape c_taped c_size c_from c_next c_token c_value c_fault c_number c_fives c_isLeft c_wentTimes c_goes c_isLeftLaid c_game c_rows c_columns c_isFound c_bestValue c_bestBelow c_bestShare c_share c_matrix c_system c_shares c_allShares)) 57 rfl dX10_add_56 rfl (xin_ok hg56) rfl rfl ?_
        refine xV_aload_n 58 rfl dX10_add_57 rfl 0 rfl ?_
        refine xV_get (v := .ref 1) 61 rfl dX10_add_58 f10_17 rfl rfl ?_
        refine xV_iload_n 62 rfl dX10_add_61 rfl 1 rfl ?_
        refine xV_iconst 63 rfl dX10_add_62 xk_i0 ?_
        obtain ⟨v63, hv63, hf⟩ := xb_s hf
        refine xV_st0 (rest := [.ref 1]) 66 rfl dX10_add_63 rfl (C10_at X.1.2.1 hv63) m10_at s10_at k10_109 rfl (Nat.le_of_ble_eq_true rfl) (Nat.le_of_ble_eq_true rfl) (Nat.le_of_ble_eq_true rfl) ⟨Nat.le_refl _, Nat.le_refl _⟩ ?_
        show xV (j10_add) X 0 0 (hM (0 : Int32) (upd c_told (xn (v41 + v46)) v53) c_read c_many c_eights c_gains c_notes c_seen c_turns c_drawn c_state c_tape c_taped c_size c_from c_next c_token c_value c_fault c_number c_fives c_isLeft c_wentTimes c_goes c_isLeftLaid c_game c_rows c_columns c_isFound c_bestValue c_bestBelow c_bestShare c_share c_matrix c_system c_shares c_allShares) 66 [(0, .ref 0), (1, .int x1), (2, .int x2)] [.int v63, .ref 1]
        refine xV_dup2 67 rfl dX10_add_66 rfl rfl ?_
        obtain ⟨hg67, hf⟩ := xg_s hf
        refine xV_iaload 68 rfl dX10_add_67 rfl (xin_ok hg67) rfl ?_
        refine xV_iconst 69 rfl dX10_add_68 xk_i1 ?_
        refine xV_iadd 70 rfl dX10_add_69 ?_
        obtain ⟨hg70, hf⟩ := xg_s hf
        refine xV_iastore (h' := (hM (0 : Int32) (upd (upd c_told (xn (v41 + v46)) v53) (xn v63) (((upd c_told (xn (v41 + v46)) v53) (xn v63)) + (1 : Int32))) c_read c_many c_eights c_gains c_notes c_seen c_turns c_drawn c_state c_tape c_taped c_size c_from c_next c_token c_value c_fault c_number c_fives c_isLeft c_wentTimes c_goes c_isLeftLaid c_game c_rows c_columns c_isFound c_bestValue c_bestBelow c_bestShare c_share c_matrix c_system c_shares c_allShares)) 71 rfl dX10_add_70 rfl (xin_ok hg70) rfl rfl ?_
        refine xV_aload_n 72 rfl dX10_add_71 rfl 0 rfl ?_
        refine xV_iload_n 73 rfl dX10_add_72 rfl 1 rfl ?_
        obtain ⟨v73, hv73, hf⟩ := xb_s hf
        refine xV_same (rest := []) 76 rfl dX10_add_73 rfl (C10_booked X.1.2.1 hv73) m10_booked v10_booked k10_259 rfl rfl rfl rfl rfl (Nat.le_of_ble_eq_true rfl) (Nat.le_of_ble_eq_true rfl) (Nat.le_of_ble_eq_true rfl) ⟨Nat.le_refl _, Nat.le_refl _⟩ ?_
        show xV (j10_add) X 0 0 (hM (0 : Int32) (upd (upd c_told (xn (v41 + v46)) v53) (xn v63) (((upd c_told (xn (v41 + v46)) v53) (xn v63)) + (1 : Int32))) c_read c_many c_eights c_gains c_notes c_seen c_turns c_drawn c_state c_tape c_taped c_size c_from c_next c_token c_value c_fault c_number c_fives c_isLeft c_wentTimes c_goes c_isLeftLaid c_game c_rows c_columns c_isFound c_bestValue c_bestBelow c_bestShare c_share c_matrix c_system c_shares c_allShares) 76 [(0, .ref 0), (1, .int x1), (2, .int x2)] [.int v73]
        obtain rfl := Option.some.inj hf
        exact xV_iret hX dX10_add_76 rfl (Nat.zero_le _) (Nat.zero_le _)
      · have hf := xif_f hf h30
        refine xV_iconst 34 rfl dX10_add_33 xk_im1 ?_
        obtain rfl := Option.some.inj hf
        exact xV_iret hX dX10_add_34 rfl (Nat.zero_le _) (Nat.zero_le _)
theorem C10_add (l : Launch) {z : Nat} {x1 : Int32} {x2 : Int32} {c_thrown : Int32} {c_told : (Nat → Int32)} {c_many : (Nat → Int32)} {c_eights : (Nat → Int32)} {c_read : (Nat → Int32)} {c_gains : (Nat → Int32)} {c_notes : (Nat → Int32)} {c_seen : (Nat → Int32)} {c_turns : (Nat → Int32)} {c_drawn : (Nat → Int32)} {c_state : Int32} {c_tape : (Nat → Int32)} {c_taped : Int32} {c_size : Int32} {c_from : Int32} {c_next : Int32} {c_token : Int32} {c_value : Int32} {c_fault : Int32} {c_number : Int32} {c_fives : (Nat → Int32)} {c_isLeft : (Nat → Int32)} {c_wentTimes : Int32} {c_goes : (Nat → Int32)} {c_isLeftLaid : Int32} {c_game : (Nat → Int32)} {c_rows : Int32} {c_columns : Int32} {c_isFound : Int32} {c_bestValue : Int64} {c_bestBelow : Int64} {c_bestShare : (Nat → Int64)} {c_share : (Nat → Int64)} {c_matrix : (Nat → Int64)} {c_system : (Nat → Int64)} {c_shares : (Nat → Int32)} {c_allShares : Int32} {v : Int32 × Int32 × (Nat → Int32)} (hf : F10_add z x1 x2 c_thrown c_told c_many c_eights = some v) : xCt l yX10_add ((some .int)) j10_add [.ref 0, .int x1, .int x2] (hM c_thrown c_told c_read c_many c_eights c_gains c_notes c_seen c_turns c_drawn c_state c_tape c_taped c_size c_from c_next c_token c_value c_fault c_number c_fives c_isLeft c_wentTimes c_goes c_isLeftLaid c_game c_rows c_columns c_isFound c_bestValue c_bestBelow c_bestShare c_share c_matrix c_system c_shares c_allShares) (some (.int v.1)) (hM v.2.1 v.2.2 c_read c_many c_eights c_gains c_notes c_seen c_turns c_drawn c_state c_tape c_taped c_size c_from c_next c_token c_value c_fault c_number c_fives c_isLeft c_wentTimes c_goes c_isLeftLaid c_game c_rows c_columns c_isFound c_bestValue c_bestBelow c_bestShare c_share c_matrix c_system c_shares c_allShares) := xCt_of (by decide) rfl (Nat.le_of_ble_eq_true rfl) (fun _ hX => T10_add hX hf)
theorem m10_add : xMd yX10_add RX10 ((some .int)) j10_add 2 := ⟨List.mem_of_getElem? (i := 812) (by decide +kernel), List.mem_of_getElem? (i := 5) (by decide +kernel), rfl, by decide +kernel⟩
theorem v10_add : xMv yX10_add RX10 := ⟨List.mem_of_getElem? (i := 810) (by decide +kernel), List.mem_of_getElem? (i := 811) (by decide +kernel)⟩
