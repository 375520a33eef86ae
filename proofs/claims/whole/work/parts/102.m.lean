theorem xk_b6 : (Int8.ofInt (6)).toInt32 = (6 : Int32) := by decide
theorem xk_in0_6 : vp_in (0 : Int32) 6 := xin_ok (by decide)
theorem xk_in1_6 : vp_in (1 : Int32) 6 := xin_ok (by decide)
theorem xk_in2_6 : vp_in (2 : Int32) 6 := xin_ok (by decide)
theorem xk_j2 : (2 : Int32).toNatClampNeg = 2 := by decide
theorem xk_in3_6 : vp_in (3 : Int32) 6 := xin_ok (by decide)
theorem xk_j3 : (3 : Int32).toNatClampNeg = 3 := by decide
theorem xk_in4_6 : vp_in (4 : Int32) 6 := xin_ok (by decide)
theorem xk_j4 : (4 : Int32).toNatClampNeg = 4 := by decide
theorem xk_in5_6 : vp_in (5 : Int32) 6 := xin_ok (by decide)
theorem xk_j5 : (5 : Int32).toNatClampNeg = 5 := by decide
theorem dX10_isWord_0 : decode cX10_isWord 0 = .ok (.bipush 6, 2) := by decide +kernel
theorem dX10_isWord_2 : decode cX10_isWord 2 = .ok (.newarray .int, 2) := by decide +kernel
theorem dX10_isWord_4 : decode cX10_isWord 4 = .ok (.dup, 1) := by decide +kernel
theorem dX10_isWord_5 : decode cX10_isWord 5 = .ok (.iconst 0, 1) := by decide +kernel
theorem dX10_isWord_6 : decode cX10_isWord 6 = .ok (.iload_n 1, 1) := by decide +kernel
theorem dX10_isWord_7 : decode cX10_isWord 7 = .ok (.iastore, 1) := by decide +kernel
theorem dX10_isWord_8 : decode cX10_isWord 8 = .ok (.dup, 1) := by decide +kernel
theorem dX10_isWord_9 : decode cX10_isWord 9 = .ok (.iconst 1, 1) := by decide +kernel
theorem dX10_isWord_10 : decode cX10_isWord 10 = .ok (.iload_n 2, 1) := by decide +kernel
theorem dX10_isWord_11 : decode cX10_isWord 11 = .ok (.iastore, 1) := by decide +kernel
theorem dX10_isWord_12 : decode cX10_isWord 12 = .ok (.dup, 1) := by decide +kernel
theorem dX10_isWord_13 : decode cX10_isWord 13 = .ok (.iconst 2, 1) := by decide +kernel
theorem dX10_isWord_14 : decode cX10_isWord 14 = .ok (.iload_n 3, 1) := by decide +kernel
theorem dX10_isWord_15 : decode cX10_isWord 15 = .ok (.iastore, 1) := by decide +kernel
theorem dX10_isWord_16 : decode cX10_isWord 16 = .ok (.dup, 1) := by decide +kernel
theorem dX10_isWord_17 : decode cX10_isWord 17 = .ok (.iconst 3, 1) := by decide +kernel
theorem dX10_isWord_18 : decode cX10_isWord 18 = .ok (.iload 4, 2) := by decide +kernel
theorem dX10_isWord_20 : decode cX10_isWord 20 = .ok (.iastore, 1) := by decide +kernel
theorem dX10_isWord_21 : decode cX10_isWord 21 = .ok (.dup, 1) := by decide +kernel
theorem dX10_isWord_22 : decode cX10_isWord 22 = .ok (.iconst 4, 1) := by decide +kernel
theorem dX10_isWord_23 : decode cX10_isWord 23 = .ok (.iload 5, 2) := by decide +kernel
theorem dX10_isWord_25 : decode cX10_isWord 25 = .ok (.iastore, 1) := by decide +kernel
theorem dX10_isWord_26 : decode cX10_isWord 26 = .ok (.dup, 1) := by decide +kernel
theorem dX10_isWord_27 : decode cX10_isWord 27 = .ok (.iconst 5, 1) := by decide +kernel
theorem dX10_isWord_28 : decode cX10_isWord 28 = .ok (.iload 6, 2) := by decide +kernel
theorem dX10_isWord_30 : decode cX10_isWord 30 = .ok (.iastore, 1) := by decide +kernel
theorem dX10_isWord_31 : decode cX10_isWord 31 = .ok (.astore 7, 2) := by decide +kernel
theorem dX10_isWord_33 : decode cX10_isWord 33 = .ok (.aload_n 0, 1) := by decide +kernel
theorem dX10_isWord_34 : decode cX10_isWord 34 = .ok (.getfield 141, 3) := by decide +kernel
theorem dX10_isWord_37 : decode cX10_isWord 37 = .ok (.iconst 1, 1) := by decide +kernel
theorem dX10_isWord_38 : decode cX10_isWord 38 = .ok (.if_icmp .ne 21, 3) := by decide +kernel
theorem dX10_isWord_41 : decode cX10_isWord 41 = .ok (.aload_n 0, 1) := by decide +kernel
theorem dX10_isWord_42 : decode cX10_isWord 42 = .ok (.getfield 132, 3) := by decide +kernel
theorem dX10_isWord_45 : decode cX10_isWord 45 = .ok (.aload_n 0, 1) := by decide +kernel
theorem dX10_isWord_46 : decode cX10_isWord 46 = .ok (.getfield 138, 3) := by decide +kernel
theorem dX10_isWord_49 : decode cX10_isWord 49 = .ok (.isub, 1) := by decide +kernel
theorem dX10_isWord_50 : decode cX10_isWord 50 = .ok (.bipush 6, 2) := by decide +kernel
theorem dX10_isWord_52 : decode cX10_isWord 52 = .ok (.if_icmp .gt 7, 3) := by decide +kernel
theorem dX10_isWord_55 : decode cX10_isWord 55 = .ok (.iconst 1, 1) := by decide +kernel
theorem dX10_isWord_56 : decode cX10_isWord 56 = .ok (.goto 4, 3) := by decide +kernel
theorem dX10_isWord_59 : decode cX10_isWord 59 = .ok (.iconst 0, 1) := by decide +kernel
theorem dX10_isWord_60 : decode cX10_isWord 60 = .ok (.istore 8, 2) := by decide +kernel
theorem dX10_isWord_62 : decode cX10_isWord 62 = .ok (.iconst 0, 1) := by decide +kernel
theorem dX10_isWord_63 : decode cX10_isWord 63 = .ok (.istore 9, 2) := by decide +kernel
theorem dX10_isWord_65 : decode cX10_isWord 65 = .ok (.iload 9, 2) := by decide +kernel
theorem dX10_isWord_67 : decode cX10_isWord 67 = .ok (.bipush 6, 2) := by decide +kernel
theorem dX10_isWord_69 : decode cX10_isWord 69 = .ok (.if_icmp .ge 58, 3) := by decide +kernel
theorem dX10_isWord_72 : decode cX10_isWord 72 = .ok (.iload 8, 2) := by decide +kernel
theorem dX10_isWord_74 : decode cX10_isWord 74 = .ok (.ifCond .eq 53, 3) := by decide +kernel
theorem dX10_isWord_77 : decode cX10_isWord 77 = .ok (.iload 9, 2) := by decide +kernel
theorem dX10_isWord_79 : decode cX10_isWord 79 = .ok (.aload_n 0, 1) := by decide +kernel
theorem dX10_isWord_80 : decode cX10_isWord 80 = .ok (.getfield 132, 3) := by decide +kernel
theorem dX10_isWord_83 : decode cX10_isWord 83 = .ok (.aload_n 0, 1) := by decide +kernel
theorem dX10_isWord_84 : decode cX10_isWord 84 = .ok (.getfield 138, 3) := by decide +kernel
theorem dX10_isWord_87 : decode cX10_isWord 87 = .ok (.isub, 1) := by decide +kernel
theorem dX10_isWord_88 : decode cX10_isWord 88 = .ok (.if_icmp .ge 17, 3) := by decide +kernel
theorem dX10_isWord_91 : decode cX10_isWord 91 = .ok (.aload_n 0, 1) := by decide +kernel
theorem dX10_isWord_92 : decode cX10_isWord 92 = .ok (.aload_n 0, 1) := by decide +kernel
theorem dX10_isWord_93 : decode cX10_isWord 93 = .ok (.getfield 138, 3) := by decide +kernel
theorem dX10_isWord_96 : decode cX10_isWord 96 = .ok (.iload 9, 2) := by decide +kernel
theorem dX10_isWord_98 : decode cX10_isWord 98 = .ok (.iadd, 1) := by decide +kernel
theorem dX10_isWord_99 : decode cX10_isWord 99 = .ok (.invokevirtual 135, 3) := by decide +kernel
theorem dX10_isWord_102 : decode cX10_isWord 102 = .ok (.goto 4, 3) := by decide +kernel
theorem dX10_isWord_105 : decode cX10_isWord 105 = .ok (.iconst 0, 1) := by decide +kernel
theorem dX10_isWord_106 : decode cX10_isWord 106 = .ok (.aload 7, 2) := by decide +kernel
theorem dX10_isWord_108 : decode cX10_isWord 108 = .ok (.iload 9, 2) := by decide +kernel
theorem dX10_isWord_110 : decode cX10_isWord 110 = .ok (.iaload, 1) := by decide +kernel
theorem dX10_isWord_111 : decode cX10_isWord 111 = .ok (.if_icmp .ne 7, 3) := by decide +kernel
theorem dX10_isWord_114 : decode cX10_isWord 114 = .ok (.iconst 1, 1) := by decide +kernel
theorem dX10_isWord_115 : decode cX10_isWord 115 = .ok (.goto 4, 3) := by decide +kernel
theorem dX10_isWord_118 : decode cX10_isWord 118 = .ok (.iconst 0, 1) := by decide +kernel
theorem dX10_isWord_119 : decode cX10_isWord 119 = .ok (.istore 8, 2) := by decide +kernel
theorem dX10_isWord_121 : decode cX10_isWord 121 = .ok (.iinc 9 1, 3) := by decide +kernel
theorem dX10_isWord_124 : decode cX10_isWord 124 = .ok (.goto (-59), 3) := by decide +kernel
theorem dX10_isWord_127 : decode cX10_isWord 127 = .ok (.iload 8, 2) := by decide +kernel
theorem dX10_isWord_129 : decode cX10_isWord 129 = .ok (.ireturn, 1) := by decide +kernel
abbrev j10_isWord : xJ := (cX10_isWord, 10, RX10, 2, 1, 6)
def F10_isWord_b119 (z : Nat) (x9 : Int32) (s0 : Int32) (c_tape : (Nat → Int32)) (c_size : Int32) (c_from : Int32) (c_next : Int32) (c_token : Int32) (c_zrow : (Nat → Int32)) (k65 : Int32 → Int32 → (Nat → Int32) → Int32 → Int32 → Int32 → Int32 → (Nat → Int32) → Option (Int32)) : Option (Int32) :=
  k65 s0 (x9 + (1 : Int32)) c_tape c_size c_from c_next c_token c_zrow
theorem T10_isWord_b119 {X : xX} {c_thrown : Int32} {c_told : (Nat → Int32)} {c_read : (Nat → Int32)} {c_many : (Nat → Int32)} {c_eights : (Nat → Int32)} {c_gains : (Nat → Int32)} {c_notes : (Nat → Int32)} {c_seen : (Nat → Int32)} {c_turns : (Nat → Int32)} {c_drawn : (Nat → Int32)} {c_state : Int32} {c_taped : Int32} {c_value : Int32} {c_fault : Int32} {c_number : Int32} {c_fives : (Nat → Int32)} {c_isLeft : (Nat → Int32)} {c_wentTimes : Int32} {c_goes : (Nat → Int32)} {c_isLeftLaid : Int32} {c_game : (Nat → Int32)} {c_rows : Int32} {c_columns : Int32} {c_isFound : Int32} {c_bestValue : Int64} {c_bestBelow : Int64} {c_bestShare : (Nat → Int64)} {c_share : (Nat → Int64)} {c_matrix : (Nat → Int64)} {c_system : (Nat → Int64)} {c_shares : (Nat → Int32)} {c_allShares : Int32} {x9 : Int32} {s0 : Int32} {c_tape : (Nat → Int32)} {c_size : Int32} {c_from : Int32} {c_next : Int32} {c_token : Int32} {c_zrow : (Nat → Int32)} {z : Nat} {v : Int32} {k65 : Int32 → Int32 → (Nat → Int32) → Int32 → Int32 → Int32 → Int32 → (Nat → Int32) → Option (Int32)} (hX : xIs (j10_isWord) X ((some .boolean)) (some (.int v)) (hM c_thrown c_told c_read c_many c_eights c_gains c_notes c_seen c_turns c_drawn c_state c_tape c_taped c_size c_from c_next c_token c_value c_fault c_number c_fives c_isLeft c_wentTimes c_goes c_isLeftLaid c_game c_rows c_columns c_isFound c_bestValue c_bestBelow c_bestShare c_share c_matrix c_system c_shares c_allShares)) (hk65 : ∀ {x8 : Int32} {x9 : Int32} {c_zrow : (Nat → Int32)}, k65 x8 x9 c_tape c_size c_from c_next c_token c_zrow = some v → xV (j10_isWord) X 1 6 (hW c_thrown c_told c_read c_many c_eights c_gains c_notes c_seen c_turns c_drawn c_state c_tape c_taped c_size c_from c_next c_token c_value c_fault c_number c_fives c_isLeft c_wentTimes c_goes c_isLeftLaid c_game c_rows c_columns c_isFound c_bestValue c_bestBelow c_bestShare c_share c_matrix c_system c_shares c_allShares c_zrow) 65 [(0, .ref 0), (7, .ref 20), (8, .int x8), (9, .int x9)] []) (hf : F10_isWord_b119 z x9 s0 c_tape c_size c_from c_next c_token c_zrow k65 = some v) : xV (j10_isWord) X 1 6 (hW c_thrown c_told c_read c_many c_eights c_gains c_notes c_seen c_turns c_drawn c_state c_tape c_taped c_size c_from c_next c_token c_value c_fault c_number c_fives c_isLeft c_wentTimes c_goes c_isLeftLaid c_game c_rows c_columns c_isFound c_bestValue c_bestBelow c_bestShare c_share c_matrix c_system c_shares c_allShares c_zrow) 119 [(0, .ref 0), (7, .ref 20), (9, .int x9)] [.int s0] := by
  unfold F10_isWord_b119 at hf
  refine xV_istore (L' := [(8, .int s0), (0, .ref 0), (7, .ref 20), (9, .int x9)]) 121 rfl dX10_isWord_119 (xlt rfl) rfl ?_
  refine xV_iinc (L' := [(9, .int (x9 + (1 : Int32))), (8, .int s0), (0, .ref 0), (7, .ref 20)]) 124 rfl dX10_isWord_121 3 rfl (xk_inc xk_i1) (xlt rfl) rfl ?_
  refine xV_goto (tgt := 65) dX10_isWord_124 (by decide) ?_
  refine xV_sub [2, 3, 1, 0] rfl ?_
  exact hk65 hf
def F10_isWord_b106 (z : Nat) (x9 : Int32) (s0 : Int32) (c_tape : (Nat → Int32)) (c_size : Int32) (c_from : Int32) (c_next : Int32) (c_token : Int32) (c_zrow : (Nat → Int32)) (k65 : Int32 → Int32 → (Nat → Int32) → Int32 → Int32 → Int32 → Int32 → (Nat → Int32) → Option (Int32)) : Option (Int32) :=
  xg (xin x9 6) (if s0 = (c_zrow (xn x9)) then (F10_isWord_b119 z x9 (1 : Int32) c_tape c_size c_from c_next c_token c_zrow k65) else (F10_isWord_b119 z x9 (0 : Int32) c_tape c_size c_from c_next c_token c_zrow k65))
theorem T10_isWord_b106 {X : xX} {c_thrown : Int32} {c_told : (Nat → Int32)} {c_read : (Nat → Int32)} {c_many : (Nat → Int32)} {c_eights : (Nat → Int32)} {c_gains : (Nat → Int32)} {c_notes : (Nat → Int32)} {c_seen : (Nat → Int32)} {c_turns : (Nat → Int32)} {c_drawn : (Nat → Int32)} {c_state : Int32} {c_taped : Int32} {c_value : Int32} {c_fault : Int32} {c_number : Int32} {c_fives : (Nat → Int32)} {c_isLeft : (Nat → Int32)} {c_wentTimes : Int32} {c_goes : (Nat → Int32)} {c_isLeftLaid : Int32} {c_game : (Nat → Int32)} {c_rows : Int32} {c_columns : Int32} {c_isFound : Int32} {c_bestValue : Int64} {c_bestBelow : Int64} {c_bestShare : (Nat → Int64)} {c_share : (Nat → Int64)} {c_matrix : (Nat → Int64)} {c_system : (Nat → Int64)} {c_shares : (Nat → Int32)} {c_allShares : Int32} {x9 : Int32} {s0 : Int32} {c_tape : (Nat → Int32)} {c_size : Int32} {c_from : Int32} {c_next : Int32} {c_token : Int32} {c_zrow : (Nat → Int32)} {z : Nat} {v : Int32} {k65 : Int32 → Int32 → (Nat → Int32) → Int32 → Int32 → Int32 → Int32 → (Nat → Int32) → Option (Int32)} (hX : xIs (j10_isWord) X ((some .boolean)) (some (.int v)) (hM c_thrown c_told c_read c_many c_eights c_gains c_notes c_seen c_turns c_drawn c_state c_tape c_taped c_size c_from c_next c_token c_value c_fault c_number c_fives c_isLeft c_wentTimes c_goes c_isLeftLaid c_game c_rows c_columns c_isFound c_bestValue c_bestBelow c_bestShare c_share c_matrix c_system c_shares c_allShares)) (hk65 : ∀ {x8 : Int32} {x9 : Int32} {c_zrow : (Nat → Int32)}, k65 x8 x9 c_tape c_size c_from c_next c_token c_zrow = some v → xV (j10_isWord) X 1 6 (hW c_thrown c_told c_read c_many c_eights c_gains c_notes c_seen c_turns c_drawn c_state c_tape c_taped c_size c_from c_next c_token c_value c_fault c_number c_fives c_isLeft c_wentTimes c_goes c_isLeftLaid c_game c_rows c_columns c_isFound c_bestValue c_bestBelow c_bestShare c_share c_matrix c_system c_shares c_allShares c_zrow) 65 [(0, .ref 0), (7, .ref 20), (8, .int x8), (9, .int x9)] []) (hf : F10_isWord_b106 z x9 s0 c_tape c_size c_from c_next c_token c_zrow k65 = some v) : xV (j10_isWord) X 1 6 (hW c_thrown c_told c_read c_many c_eights c_gains c_notes c_seen c_turns c_drawn c_state c_tape c_taped c_size c_from c_next c_token c_value c_fault c_number c_fives c_isLeft c_wentTimes c_goes c_isLeftLaid c_game c_rows c_columns c_isFound c_bestValue c_bestBelow c_bestShare c_share c_matrix c_system c_shares c_allShares c_zrow) 106 [(0, .ref 0), (7, .ref 20), (9, .int x9)] [.int s0] := by
  unfold F10_isWord_b106 at hf
  refine xV_aload 108 rfl dX10_isWord_106 1 rfl ?_
  refine xV_iload 110 rfl dX10_isWord_108 2 rfl ?_
  obtain ⟨hg110, hf⟩ := xg_s hf
  refine xV_iaload 111 rfl dX10_isWord_110 rfl (xin_ok hg110) rfl ?_
  refine xV_icmp_ne (tgt := 118) 114 rfl dX10_isWord_111 (by decide) (fun h111 => ?_) (fun h111 => ?_)
  · have hf := xif_f hf h111
    refine xV_iconst 119 rfl dX10_isWord_118 xk_i0 ?_
    exact T10_isWord_b119 hX hk65 hf
  · have hf := xif_t hf h111
    refine xV_iconst 115 rfl dX10_isWord_114 xk_i1 ?_
    refine xV_goto (tgt := 119) dX10_isWord_115 (by decide) ?_
    exact T10_isWord_b119 hX hk65 hf
def F10_isWord_b65 (z : Nat) (w : Nat) (x8 : Int32) (x9 : Int32) (c_tape : (Nat → Int32)) (c_size : Int32) (c_from : Int32) (c_next : Int32) (c_token : Int32) (c_zrow : (Nat → Int32)) : Option (Int32) := match w with
  | 0 => none
  | w + 1 => if (6 : Int32) ≤ x9 then (xg (xbo x8) (some (x8))) else (if x8 = 0 then (xg (xbo x8) (some (x8))) else (if (c_next - c_from) ≤ x9 then (F10_isWord_b106 z x9 (0 : Int32) c_tape c_size c_from c_next c_token c_zrow (fun q0 q1 q2 q3 q4 q5 q6 q7 => F10_isWord_b65 z w q0 q1 q2 q3 q4 q5 q6 q7)) else ((F10_byteAt (c_from + x9) c_tape c_size).bind (fun v99 => F10_isWord_b106 z x9 v99 c_tape c_size c_from c_next c_token c_zrow (fun q0 q1 q2 q3 q4 q5 q6 q7 => F10_isWord_b65 z w q0 q1 q2 q3 q4 q5 q6 q7)))))
theorem T10_isWord_b65 {X : xX} {c_thrown : Int32} {c_told : (Nat → Int32)} {c_read : (Nat → Int32)} {c_many : (Nat → Int32)} {c_eights : (Nat → Int32)} {c_gains : (Nat → Int32)} {c_notes : (Nat → Int32)} {c_seen : (Nat → Int32)} {c_turns : (Nat → Int32)} {c_drawn : (Nat → Int32)} {c_state : Int32} {c_tape : (Nat → Int32)} {c_taped : Int32} {c_size : Int32} {c_from : Int32} {c_next : Int32} {c_token : Int32} {c_value : Int32} {c_fault : Int32} {c_number : Int32} {c_fives : (Nat → Int32)} {c_isLeft : (Nat → Int32)} {c_wentTimes : Int32} {c_goes : (Nat → Int32)} {c_isLeftLaid : Int32} {c_game : (Nat → Int32)} {c_rows : Int32} {c_columns : Int32} {c_isFound : Int32} {c_bestValue : Int64} {c_bestBelow : Int64} {c_bestShare : (Nat → Int64)} {c_share : (Nat → Int64)} {c_matrix : (Nat → Int64)} {c_system : (Nat → Int64)} {c_shares : (Nat → Int32)} {c_allShares : Int32} {z : Nat} {v : Int32} (hX : xIs (j10_isWord) X ((some .boolean)) (some (.int v)) (hM c_thrown c_told c_read c_many c_eights c_gains c_notes c_seen c_turns c_drawn c_state c_tape c_taped c_size c_from c_next c_token c_value c_fault c_number c_fives c_isLeft c_wentTimes c_goes c_isLeftLaid c_game c_rows c_columns c_isFound c_bestValue c_bestBelow c_bestShare c_share c_matrix c_system c_shares c_allShares)) : ∀ (w : Nat) {x8 : Int32} {x9 : Int32} {c_zrow : (Nat → Int32)}, F10_isWord_b65 z w x8 x9 c_tape c_size c_from c_next c_token c_zrow = some v → xV (j10_isWord) X 1 6 (hW c_thrown c_told c_read c_many c_eights c_gains c_notes c_seen c_turns c_drawn c_state c_tape c_taped c_size c_from c_next c_token c_value c_fault c_number c_fives c_isLeft c_wentTimes c_goes c_isLeftLaid c_game c_rows c_columns c_isFound c_bestValue c_bestBelow c_bestShare c_share c_matrix c_system c_shares c_allShares c_zrow) 65 [(0, .ref 0), (7, .ref 20), (8, .int x8), (9, .int x9)] [] := by
  intro w
  induction w with
  | zero => intro x8 x9 c_zrow hf; cases hf
  | succ w ih =>
    intro x8 x9 c_zrow hf
    unfold F10_isWord_b65 at hf
    refine xV_iload 67 rfl dX10_isWord_65 3 rfl ?_
    refine xV_bipush 69 rfl dX10_isWord_67 xk_b6 ?_
    refine xV_icmp_ge (tgt := 127) 72 rfl dX10_isWord_69 (by decide) (fun h69 => ?_) (fun h69 => ?_)
    · have hf := xif_t hf h69
      refine xV_iload 129 rfl dX10_isWord_127 2 rfl ?_
      obtain ⟨hgr, hf⟩ := xg_s hf
      obtain rfl := Option.some.inj hf
      refine xV_drop ?_
      exact xV_iret hX dX10_isWord_129 (xbo_ok hgr) (Nat.le_of_ble_eq_true rfl) (Nat.le_of_ble_eq_true rfl)
    · have hf := xif_f hf h69
      refine xV_iload 74 rfl dX10_isWord_72 2 rfl ?_
      refine xV_if_eq (tgt := 127) 77 rfl dX10_isWord_74 (by decide) (fun h74 => ?_) (fun h74 => ?_)
      · have hf := xif_t hf h74
        refine xV_iload 129 rfl dX10_isWord_127 2 rfl ?_
        obtain ⟨hgr, hf⟩ := xg_s hf
        obtain rfl := Option.some.inj hf
        refine xV_drop ?_
        exact xV_iret hX dX10_isWord_129 (xbo_ok hgr) (Nat.le_of_ble_eq_true rfl) (Nat.le_of_ble_eq_true rfl)
      · have hf := xif_f hf h74
        refine xV_iload 79 rfl dX10_isWord_77 3 rfl ?_
        refine xV_aload_n 80 rfl dX10_isWord_79 rfl 0 rfl ?_
        refine xV_get (v := .int c_next) 83 rfl dX10_isWord_80 f10_132 rfl rfl ?_
        refine xV_aload_n 84 rfl dX10_isWord_83 rfl 0 rfl ?_
        refine xV_get (v := .int c_from) 87 rfl dX10_isWord_84 f10_138 rfl rfl ?_
        refine xV_isub 88 rfl dX10_isWord_87 ?_
        refine xV_icmp_ge (tgt := 105) 91 rfl dX10_isWord_88 (by decide) (fun h88 => ?_) (fun h88 => ?_)
        · have hf := xif_t hf h88
          refine xV_iconst 106 rfl dX10_isWord_105 xk_i0 ?_
          refine xV_sub [0, 1, 3] rfl ?_
          exact T10_isWord_b106 hX (fun {_ _ _} hq => ih hq) hf
        · have hf := xif_f hf h88
          refine xV_aload_n 92 rfl dX10_isWord_91 rfl 0 rfl ?_
          refine xV_aload_n 93 rfl dX10_isWord_92 rfl 0 rfl ?_
          refine xV_get (v := .int c_from) 96 rfl dX10_isWord_93 f10_138 rfl rfl ?_
          refine xV_iload 98 rfl dX10_isWord_96 3 rfl ?_
          refine xV_iadd 99 rfl dX10_isWord_98 ?_
          obtain ⟨v99, hv99, hf⟩ := xb_s hf
          refine xV_pre (rest := []) 102 rfl dX10_isWord_99 rfl (C10_byteAt X.1.2.1 hv99) m10_byteAt v10_byteAt k10_135 rfl rfl rfl rfl rfl (Nat.le_of_ble_eq_true rfl) (Nat.le_of_ble_eq_true rfl) (Nat.le_of_ble_eq_true rfl) ⟨Nat.le_of_ble_eq_true rfl, Nat.le_of_ble_eq_true rfl⟩ ?_
          show xV (j10_isWord) X 1 6 (hW c_thrown c_told c_read c_many c_eights c_gains c_notes c_seen c_turns c_drawn c_state c_tape c_taped c_size c_from c_next c_token c_value c_fault c_number c_fives c_isLeft c_wentTimes c_goes c_isLeftLaid c_game c_rows c_columns c_isFound c_bestValue c_bestBelow c_bestShare c_share c_matrix c_system c_shares c_allShares c_zrow) 102 [(0, .ref 0), (7, .ref 20), (8, .int x8), (9, .int x9)] [.int v99]
          refine xV_goto (tgt := 106) dX10_isWord_102 (by decide) ?_
          refine xV_sub [0, 1, 3] rfl ?_
          exact T10_isWord_b106 hX (fun {_ _ _} hq => ih hq) hf
def F10_isWord_b60 (z : Nat) (s0 : Int32) (c_tape : (Nat → Int32)) (c_size : Int32) (c_from : Int32) (c_next : Int32) (c_token : Int32) (c_zrow : (Nat → Int32)) : Option (Int32) :=
  F10_isWord_b65 z z s0 (0 : Int32) c_tape c_size c_from c_next c_token c_zrow
theorem T10_isWord_b60 {X : xX} {c_thrown : Int32} {c_told : (Nat → Int32)} {c_read : (Nat → Int32)} {c_many : (Nat → Int32)} {c_eights : (Nat → Int32)} {c_gains : (Nat → Int32)} {c_notes : (Nat → Int32)} {c_seen : (Nat → Int32)} {c_turns : (Nat → Int32)} {c_drawn : (Nat → Int32)} {c_state : Int32} {c_taped : Int32} {c_value : Int32} {c_fault : Int32} {c_number : Int32} {c_fives : (Nat → Int32)} {c_isLeft : (Nat → Int32)} {c_wentTimes : Int32} {c_goes : (Nat → Int32)} {c_isLeftLaid : Int32} {c_game : (Nat → Int32)} {c_rows : Int32} {c_columns : Int32} {c_isFound : Int32} {c_bestValue : Int64} {c_bestBelow : Int64} {c_bestShare : (Nat → Int64)} {c_share : (Nat → Int64)} {c_matrix : (Nat → Int64)} {c_system : (Nat → Int64)} {c_shares : (Nat → Int32)} {c_allShares : Int32} {s0 : Int32} {c_tape : (Nat → Int32)} {c_size : Int32} {c_from : Int32} {c_next : Int32} {c_token : Int32} {c_zrow : (Nat → Int32)} {z : Nat} {v : Int32} (hX : xIs (j10_isWord) X ((some .boolean)) (some (.int v)) (hM c_thrown c_told c_read c_many c_eights c_gains c_notes c_seen c_turns c_drawn c_state c_tape c_taped c_size c_from c_next c_token c_value c_fault c_number c_fives c_isLeft c_wentTimes c_goes c_isLeftLaid c_game c_rows c_columns c_isFound c_bestValue c_bestBelow c_bestShare c_share c_matrix c_system c_shares c_allShares)) (hf : F10_isWord_b60 z s0 c_tape c_size c_from c_next c_token c_zrow = some v) : xV (j10_isWord) X 1 6 (hW c_thrown c_told c_read c_many c_eights c_gains c_notes c_seen c_turns c_drawn c_state c_tape c_taped c_size c_from c_next c_token c_value c_fault c_number c_fives c_isLeft c_wentTimes c_goes c_isLeftLaid c_game c_rows c_columns c_isFound c_bestValue c_bestBelow c_bestShare c_share c_matrix c_system c_shares c_allShares c_zrow) 60 [(0, .ref 0), (7, .ref 20)] [.int s0] := by
  unfold F10_isWord_b60 at hf
  refine xV_istore (L' := [(8, .int s0), (0, .ref 0), (7, .ref 20)]) 62 rfl dX10_isWord_60 (xlt rfl) rfl ?_
  refine xV_iconst 63 rfl dX10_isWord_62 xk_i0 ?_
  refine xV_istore (L' := [(9, .int (0 : Int32)), (8, .int s0), (0, .ref 0), (7, .ref 20)]) 65 rfl dX10_isWord_63 (xlt rfl) rfl ?_
  refine xV_sub [2, 3, 1, 0] rfl ?_
  exact T10_isWord_b65 hX _ hf
def F10_isWord (z : Nat) (x1 : Int32) (x2 : Int32) (x3 : Int32) (x4 : Int32) (x5 : Int32) (x6 : Int32) (c_tape : (Nat → Int32)) (c_size : Int32) (c_from : Int32) (c_next : Int32) (c_token : Int32) : Option (Int32) :=
  if c_token = (1 : Int32) then (if (6 : Int32) < (c_next - c_from) then (F10_isWord_b60 z (0 : Int32) c_tape c_size c_from c_next c_token (upd (upd (upd (upd (upd (upd (fun _ => 0) 0 x1) 1 x2) 2 x3) 3 x4) 4 x5) 5 x6)) else (F10_isWord_b60 z (1 : Int32) c_tape c_size c_from c_next c_token (upd (upd (upd (upd (upd (upd (fun _ => 0) 0 x1) 1 x2) 2 x3) 3 x4) 4 x5) 5 x6))) else (F10_isWord_b60 z (0 : Int32) c_tape c_size c_from c_next c_token (upd (upd (upd (upd (upd (upd (fun _ => 0) 0 x1) 1 x2) 2 x3) 3 x4) 4 x5) 5 x6))
theorem T10_isWord {X : xX} {z : Nat} {x1 : Int32} {x2 : Int32} {x3 : Int32} {x4 : Int32} {x5 : Int32} {x6 : Int32} {c_tape : (Nat → Int32)} {c_size : Int32} {c_from : Int32} {c_next : Int32} {c_token : Int32} {c_thrown : Int32} {c_told : (Nat → Int32)} {c_read : (Nat → Int32)} {c_many : (Nat → Int32)} {c_eights : (Nat → Int32)} {c_gains : (Nat → Int32)} {c_notes : (Nat → Int32)} {c_seen : (Nat → Int32)} {c_turns : (Nat → Int32)} {c_drawn : (Nat → Int32)} {c_state : Int32} {c_taped : Int32} {c_value : Int32} {c_fault : Int32} {c_number : Int32} {c_fives : (Nat → Int32)} {c_isLeft : (Nat → Int32)} {c_wentTimes : Int32} {c_goes : (Nat → Int32)} {c_isLeftLaid : Int32} {c_game : (Nat → Int32)} {c_rows : Int32} {c_columns : Int32} {c_isFound : Int32} {c_bestValue : Int64} {c_bestBelow : Int64} {c_bestShare : (Nat → Int64)} {c_share : (Nat → Int64)} {c_matrix : (Nat → Int64)} {c_system : (Nat → Int64)} {c_shares : (Nat → Int32)} {c_allShares : Int32} {v : Int32} (hX : xIs (j10_isWord) X ((some .boolean)) (some (.int v)) (hM c_thrown c_told c_read c_many c_eights c_gains c_notes c_seen c_turns c_drawn c_state c_tape c_taped c_size c_from c_next c_token c_value c_fault c_number c_fives c_isLeft c_wentTimes c_goes c_isLeftLaid c_game c_rows c_columns c_isFound c_bestValue c_bestBelow c_bestShare c_share c_matrix c_system c_shares c_allShares)) (hf : F10_isWord z x1 x2 x3 x4 x5 x6 c_tape c_size c_from c_next c_token = some v) : xV (j10_isWord) X 0 0 (hM c_thrown c_told c_read c_many c_eights c_gains c_notes c_seen c_turns c_drawn c_state c_tape c_taped c_size c_from c_next c_token c_value c_fault c_number c_fives c_isLeft c_wentTimes c_goes c_isLeftLaid c_game c_rows c_columns c_isFound c_bestValue c_bestBelow c_bestShare c_share c_matrix c_system c_shares c_allShares) 0 [(0, .ref 0), (1, .int x1), (2, .int x2), (3, .int x3), (4, .int x4), (5, .int x5), (6, .int x6)] [] := by
  unfold F10_isWord at hf
  refine xV_bipush 2 rfl dX10_isWord_0 xk_b6 ?_
  refine xV_newa (atype := .int) (kd := 0) (a0 := (6, .inl (fun _ => 0))) 4 rfl dX10_isWord_2 (List.mem_of_getElem? (i := 43) (by decide +kernel)) rfl rfl (fun _ => rfl) (fun _ => rfl) (by decide) (by decide) (by decide) (Nat.le_of_ble_eq_true rfl) (Nat.le_of_ble_eq_true rfl) (xScH_of (Nat.le_refl _) rfl) (xScL_of rfl) (xScS_of rfl) (fun X' e0 hI => ?_)
  have hX := hI _ _ _ (xScH_of (Nat.le_of_ble_eq_true rfl) rfl) (fun v e => by cases e; exact xScV_of rfl) hX
  show xV (j10_isWord) X' 1 6 (hW c_thrown c_told c_read c_many c_eights c_gains c_notes c_seen c_turns c_drawn c_state c_tape c_taped c_size c_from c_next c_token c_value c_fault c_number c_fives c_isLeft c_wentTimes c_goes c_isLeftLaid c_game c_rows c_columns c_isFound c_bestValue c_bestBelow c_bestShare c_share c_matrix c_system c_shares c_allShares (fun _ => 0)) 4 [(0, .ref 0), (1, .int x1), (2, .int x2), (3, .int x3), (4, .int x4), (5, .int x5), (6, .int x6)] [.ref 20]
  refine xV_dup 5 rfl dX10_isWord_4 rfl ?_
  refine xV_iconst 6 rfl dX10_isWord_5 xk_i0 ?_
  refine xV_iload_n 7 rfl dX10_isWord_6 rfl 1 rfl ?_
  refine xV_iastore (h' := (hW c_thrown c_told c_read c_many c_eights c_gains c_notes c_seen c_turns c_drawn c_state c_tape c_taped c_size c_from c_next c_token c_value c_fault c_number c_fives c_isLeft c_wentTimes c_goes c_isLeftLaid c_game c_rows c_columns c_isFound c_bestValue c_bestBelow c_bestShare c_share c_matrix c_system c_shares c_allShares (upd (fun _ => 0) 0 x1))) 8 rfl dX10_isWord_7 rfl xk_in0_6 xk_j0 rfl ?_
  refine xV_dup 9 rfl dX10_isWord_8 rfl ?_
  refine xV_iconst 10 rfl dX10_isWord_9 xk_i1 ?_
  refine xV_iload_n 11 rfl dX10_isWord_10 rfl 2 rfl ?_
  refine xV_iastore (h' := (hW c_thrown c_told c_read c_many c_eights c_gains c_notes c_seen c_turns c_drawn c_state c_tape c_taped c_size c_from c_next c_token c_value c_fault c_number c_fives c_isLeft c_wentTimes c_goes c_isLeftLaid c_game c_rows c_columns c_isFound c_bestValue c_bestBelow c_bestShare c_share c_matrix c_system c_shares c_allShares (upd (upd (fun _ => 0) 0 x1) 1 x2))) 12 rfl dX10_isWord_11 rfl xk_in1_6 xk_j1 rfl ?_
  refine xV_dup 13 rfl dX10_isWord_12 rfl ?_
  refine xV_iconst 14 rfl dX10_isWord_13 xk_i2 ?_
  refine xV_iload_n 15 rfl dX10_isWord_14 rfl 3 rfl ?_
  refine xV_iastore (h' := (hW c_thrown c_told c_read c_many c_eights c_gains c_notes c_seen c_turns c_drawn c_state c_tape c_taped c_size c_from c_next c_token c_value c_fault c_number c_fives c_isLeft c_wentTimes c_goes c_isLeftLaid c_game c_rows c_columns c_isFound c_bestValue c_bestBelow c_bestShare c_share c_matrix c_system c_shares c_allShares (upd (upd (upd (fun _ => 0) 0 x1) 1 x2) 2 x3))) 16 rfl dX10_isWord_15 rfl xk_in2_6 xk_j2 rfl ?_
  refine xV_dup 17 rfl dX10_isWord_16 rfl ?_
  refine xV_iconst 18 rfl dX10_isWord_17 xk_i3 ?_
  refine xV_iload 20 rfl dX10_isWord_18 4 rfl ?_
  refine xV_iastore (h' := (hW c_thrown c_told c_read c_many c_eights c_gains c_notes c_seen c_turns c_drawn c_state c_tape c_taped c_size c_from c_next c_token c_value c_fault c_number c_fives c_isLeft c_wentTimes c_goes c_isLeftLaid c_game c_rows c_columns c_isFound c_bestValue c_bestBelow c_bestShare c_share c_matrix c_system c_shares c_allShares (upd (upd (upd (upd (fun _ => 0) 0 x1) 1 x2) 2 x3) 3 x4))) 21 rfl dX10_isWord_20 rfl xk_in3_6 xk_j3 rfl ?_
  refine xV_dup 22 rfl dX10_isWord_21 rfl ?_
  refine xV_iconst 23 rfl dX10_isWord_22 xk_i4 ?_
  refine xV_iload 25 rfl dX10_isWord_23 5 rfl ?_
  refine xV_iastore (h' := (hW c_thrown c_told c_read c_many c_eights c_gains c_notes c_seen c_turns c_drawn c_state c_tape c_taped c_size c_from c_next c_token c_value c_fault c_number c_fives c_isLeft c_wentTimes c_goes c_isLeftLaid c_game c_rows c_columns c_isFound c_bestValue c_bestBelow c_bestShare c_share c_matrix c_system c_shares c_allShares (upd (upd (upd (upd (upd (fun _ => 0) 0 x1) 1 x2) 2 x3) 3 x4) 4 x5))) 26 rfl dX10_isWord_25 rfl xk_in4_6 xk_j4 rfl ?_
  refine xV_dup 27 rfl dX10_isWord_26 rfl ?_
  refine xV_iconst 28 rfl dX10_isWord_27 xk_i5 ?_
  refine xV_iload 30 rfl dX10_isWord_28 6 rfl ?_
  refine xV_iastore (h' := (hW c_thrown c_told c_read c_many c_eights c_gains c_notes c_seen c_turns c_drawn c_state c_tape c_taped c_size c_from c_next c_token c_value c_fault c_number c_fives c_isLeft c_wentTimes c_goes c_isLeftLaid c_game c_rows c_columns c_isFound c_bestValue c_bestBelow c_bestShare c_share c_matrix c_system c_shares c_allShares (upd (upd (upd (upd (upd (upd (fun _ => 0) 0 x1) 1 x2) 2 x3) 3 x4) 4 x5) 5 x6))) 31 rfl dX10_isWord_30 rfl xk_in5_6 xk_j5 rfl ?_
  refine xV_astore (L' := [(7, .ref 20), (0, .ref 0), (1, .int x1), (2, .int x2), (3, .int x3), (4, .int x4), (5, .int x5), (6, .int x6)]) 33 rfl dX10_isWord_31 (xlt rfl) rfl ?_
  refine xV_aload_n 34 rfl dX10_isWord_33 rfl 1 rfl ?_
  refine xV_get (v := .int c_token) 37 rfl dX10_isWord_34 f10_141 rfl rfl ?_
  refine xV_iconst 38 rfl dX10_isWord_37 xk_i1 ?_
  refine xV_icmp_ne (tgt := 59) 41 rfl dX10_isWord_38 (by decide) (fun h38 => ?_) (fun h38 => ?_)
  · have hf := xif_f hf h38
    refine xV_iconst 60 rfl dX10_isWord_59 xk_i0 ?_
    refine xV_sub [1, 0] rfl ?_
    exact T10_isWord_b60 hX hf
  · have hf := xif_t hf h38
    refine xV_aload_n 42 rfl dX10_isWord_41 rfl 1 rfl ?_
    refine xV_get (v := .int c_next) 45 rfl dX10_isWord_42 f10_132 rfl rfl ?_
    refine xV_aload_n 46 rfl dX10_isWord_45 rfl 1 rfl ?_
    refine xV_get (v := .int c_from) 49 rfl dX10_isWord_46 f10_138 rfl rfl ?_
    refine xV_isub 50 rfl dX10_isWord_49 ?_
    refine xV_bipush 52 rfl dX10_isWord_50 xk_b6 ?_
    refine xV_icmp_gt (tgt := 59) 55 rfl dX10_isWord_52 (by decide) (fun h52 => ?_) (fun h52 => ?_)
    · have hf := xif_t hf h52
      refine xV_iconst 60 rfl dX10_isWord_59 xk_i0 ?_
      refine xV_sub [1, 0] rfl ?_
      exact T10_isWord_b60 hX hf
    · have hf := xif_f hf h52
      refine xV_iconst 56 rfl dX10_isWord_55 xk_i1 ?_
      refine xV_goto (tgt := 60) dX10_isWord_56 (by decide) ?_
      refine xV_sub [1, 0] rfl ?_
      exact T10_isWord_b60 hX hf
theorem C10_isWord (l : Launch) {z : Nat} {x1 : Int32} {x2 : Int32} {x3 : Int32} {x4 : Int32} {x5 : Int32} {x6 : Int32} {c_tape : (Nat → Int32)} {c_size : Int32} {c_from : Int32} {c_next : Int32} {c_token : Int32} {c_thrown : Int32} {c_told : (Nat → Int32)} {c_read : (Nat → Int32)} {c_many : (Nat → Int32)} {c_eights : (Nat → Int32)} {c_gains : (Nat → Int32)} {c_notes : (Nat → Int32)} {c_seen : (Nat → Int32)} {c_turns : (Nat → Int32)} {c_drawn : (Nat → Int32)} {c_state : Int32} {c_taped : Int32} {c_value : Int32} {c_fault : Int32} {c_number : Int32} {c_fives : (Nat → Int32)} {c_isLeft : (Nat → Int32)} {c_wentTimes : Int32} {c_goes : (Nat → Int32)} {c_isLeftLaid : Int32} {c_game : (Nat → Int32)} {c_rows : Int32} {c_columns : Int32} {c_isFound : Int32} {c_bestValue : Int64} {c_bestBelow : Int64} {c_bestShare : (Nat → Int64)} {c_share : (Nat → Int64)} {c_matrix : (Nat → Int64)} {c_system : (Nat → Int64)} {c_shares : (Nat → Int32)} {c_allShares : Int32} {v : Int32} (hf : F10_isWord z x1 x2 x3 x4 x5 x6 c_tape c_size c_from c_next c_token = some v) : xCt l yX10_isWord ((some .boolean)) j10_isWord [.ref 0, .int x1, .int x2, .int x3, .int x4, .int x5, .int x6] (hM c_thrown c_told c_read c_many c_eights c_gains c_notes c_seen c_turns c_drawn c_state c_tape c_taped c_size c_from c_next c_token c_value c_fault c_number c_fives c_isLeft c_wentTimes c_goes c_isLeftLaid c_game c_rows c_columns c_isFound c_bestValue c_bestBelow c_bestShare c_share c_matrix c_system c_shares c_allShares) (some (.int v)) (hM c_thrown c_told c_read c_many c_eights c_gains c_notes c_seen c_turns c_drawn c_state c_tape c_taped c_size c_from c_next c_token c_value c_fault c_number c_fives c_isLeft c_wentTimes c_goes c_isLeftLaid c_game c_rows c_columns c_isFound c_bestValue c_bestBelow c_bestShare c_share c_matrix c_system c_shares c_allShares) := xCt_of (by decide) rfl (Nat.le_of_ble_eq_true rfl) (fun _ hX => T10_isWord hX hf)
theorem m10_isWord : xMd yX10_isWord RX10 ((some .boolean)) j10_isWord 6 := ⟨List.mem_of_getElem? (i := 433) (by decide +kernel), List.mem_of_getElem? (i := 5) (by decide +kernel), rfl, by decide +kernel⟩
theorem v10_isWord : xMv yX10_isWord RX10 := ⟨List.mem_of_getElem? (i := 431) (by decide +kernel), List.mem_of_getElem? (i := 432) (by decide +kernel)⟩
