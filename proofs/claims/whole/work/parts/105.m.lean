theorem dX10_isGoing_0 : decode cX10_isGoing 0 = .ok (.iconst 0, 1) := by decide +kernel
theorem dX10_isGoing_1 : decode cX10_isGoing 1 = .ok (.istore_n 3, 1) := by decide +kernel
theorem dX10_isGoing_2 : decode cX10_isGoing 2 = .ok (.iconst 0, 1) := by decide +kernel
theorem dX10_isGoing_3 : decode cX10_isGoing 3 = .ok (.istore 4, 2) := by decide +kernel
theorem dX10_isGoing_5 : decode cX10_isGoing 5 = .ok (.iload 4, 2) := by decide +kernel
theorem dX10_isGoing_7 : decode cX10_isGoing 7 = .ok (.aload_n 0, 1) := by decide +kernel
theorem dX10_isGoing_8 : decode cX10_isGoing 8 = .ok (.getfield 24, 3) := by decide +kernel
theorem dX10_isGoing_11 : decode cX10_isGoing 11 = .ok (.iload_n 1, 1) := by decide +kernel
theorem dX10_isGoing_12 : decode cX10_isGoing 12 = .ok (.iaload, 1) := by decide +kernel
theorem dX10_isGoing_13 : decode cX10_isGoing 13 = .ok (.if_icmp .ge 48, 3) := by decide +kernel
theorem dX10_isGoing_16 : decode cX10_isGoing 16 = .ok (.iload_n 3, 1) := by decide +kernel
theorem dX10_isGoing_17 : decode cX10_isGoing 17 = .ok (.ifCond .ne 44, 3) := by decide +kernel
theorem dX10_isGoing_20 : decode cX10_isGoing 20 = .ok (.aload_n 0, 1) := by decide +kernel
theorem dX10_isGoing_21 : decode cX10_isGoing 21 = .ok (.getfield 53, 3) := by decide +kernel
theorem dX10_isGoing_24 : decode cX10_isGoing 24 = .ok (.sipush 128, 3) := by decide +kernel
theorem dX10_isGoing_27 : decode cX10_isGoing 27 = .ok (.iload_n 1, 1) := by decide +kernel
theorem dX10_isGoing_28 : decode cX10_isGoing 28 = .ok (.imul, 1) := by decide +kernel
theorem dX10_isGoing_29 : decode cX10_isGoing 29 = .ok (.iload 4, 2) := by decide +kernel
theorem dX10_isGoing_31 : decode cX10_isGoing 31 = .ok (.iadd, 1) := by decide +kernel
theorem dX10_isGoing_32 : decode cX10_isGoing 32 = .ok (.baload, 1) := by decide +kernel
theorem dX10_isGoing_33 : decode cX10_isGoing 33 = .ok (.ifCond .eq 20, 3) := by decide +kernel
theorem dX10_isGoing_36 : decode cX10_isGoing 36 = .ok (.aload_n 0, 1) := by decide +kernel
theorem dX10_isGoing_37 : decode cX10_isGoing 37 = .ok (.iload_n 1, 1) := by decide +kernel
theorem dX10_isGoing_38 : decode cX10_isGoing 38 = .ok (.iload_n 2, 1) := by decide +kernel
theorem dX10_isGoing_39 : decode cX10_isGoing 39 = .ok (.iload 4, 2) := by decide +kernel
theorem dX10_isGoing_41 : decode cX10_isGoing 41 = .ok (.iconst 1, 1) := by decide +kernel
theorem dX10_isGoing_42 : decode cX10_isGoing 42 = .ok (.iconst 0, 1) := by decide +kernel
theorem dX10_isGoing_43 : decode cX10_isGoing 43 = .ok (.invokevirtual 236, 3) := by decide +kernel
theorem dX10_isGoing_46 : decode cX10_isGoing 46 = .ok (.ifCond .eq 7, 3) := by decide +kernel
theorem dX10_isGoing_49 : decode cX10_isGoing 49 = .ok (.iconst 1, 1) := by decide +kernel
theorem dX10_isGoing_50 : decode cX10_isGoing 50 = .ok (.goto 4, 3) := by decide +kernel
theorem dX10_isGoing_53 : decode cX10_isGoing 53 = .ok (.iconst 0, 1) := by decide +kernel
theorem dX10_isGoing_54 : decode cX10_isGoing 54 = .ok (.istore_n 3, 1) := by decide +kernel
theorem dX10_isGoing_55 : decode cX10_isGoing 55 = .ok (.iinc 4 1, 3) := by decide +kernel
theorem dX10_isGoing_58 : decode cX10_isGoing 58 = .ok (.goto (-53), 3) := by decide +kernel
theorem dX10_isGoing_61 : decode cX10_isGoing 61 = .ok (.iload_n 3, 1) := by decide +kernel
theorem dX10_isGoing_62 : decode cX10_isGoing 62 = .ok (.ireturn, 1) := by decide +kernel
abbrev j10_isGoing : xJ := (cX10_isGoing, 5, RX10, 3, 0, 0)
def F10_isGoing_b54 (z : Nat) (x1 : Int32) (x2 : Int32) (x4 : Int32) (s0 : Int32) (c_many : (Nat → Int32)) (c_gains : (Nat → Int32)) (c_isLeft : (Nat → Int32)) (k5 : Int32 → Int32 → Int32 → Int32 → (Nat → Int32) → (Nat → Int32) → (Nat → Int32) → Option (Int32)) : Option (Int32) :=
  k5 x1 x2 s0 (x4 + (1 : Int32)) c_many c_gains c_isLeft
theorem T10_isGoing_b54 {X : xX} {c_thrown : Int32} {c_told : (Nat → Int32)} {c_read : (Nat → Int32)} {c_eights : (Nat → Int32)} {c_notes : (Nat → Int32)} {c_seen : (Nat → Int32)} {c_turns : (Nat → Int32)} {c_drawn : (Nat → Int32)} {c_state : Int32} {c_tape : (Nat → Int32)} {c_taped : Int32} {c_size : Int32} {c_from : Int32} {c_next : Int32} {c_token : Int32} {c_value : Int32} {c_fault : Int32} {c_number : Int32} {c_fives : (Nat → Int32)} {c_wentTimes : Int32} {c_goes : (Nat → Int32)} {c_isLeftLaid : Int32} {c_game : (Nat → Int32)} {c_rows : Int32} {c_columns : Int32} {c_isFound : Int32} {c_bestValue : Int64} {c_bestBelow : Int64} {c_bestShare : (Nat → Int64)} {c_share : (Nat → Int64)} {c_matrix : (Nat → Int64)} {c_system : (Nat → Int64)} {c_shares : (Nat → Int32)} {c_allShares : Int32} {x1 : Int32} {x2 : Int32} {x4 : Int32} {s0 : Int32} {c_many : (Nat → Int32)} {c_gains : (Nat → Int32)} {c_isLeft : (Nat → Int32)} {z : Nat} {v : Int32} {k5 : Int32 → Int32 → Int32 → Int32 → (Nat → Int32) → (Nat → Int32) → (Nat → Int32) → Option (Int32)} (hX : xIs (j10_isGoing) X ((some .boolean)) (some (.int v)) (hM c_thrown c_told c_read c_many c_eights c_gains c_notes c_seen c_turns c_drawn c_state c_tape c_taped c_size c_from c_next c_token c_value c_fault c_number c_fives c_isLeft c_wentTimes c_goes c_isLeftLaid c_game c_rows c_columns c_isFound c_bestValue c_bestBelow c_bestShare c_share c_matrix c_system c_shares c_allShares)) (hk5 : ∀ {x1 : Int32} {x2 : Int32} {x3 : Int32} {x4 : Int32}, k5 x1 x2 x3 x4 c_many c_gains c_isLeft = some v → xV (j10_isGoing) X 0 0 (hM c_thrown c_told c_read c_many c_eights c_gains c_notes c_seen c_turns c_drawn c_state c_tape c_taped c_size c_from c_next c_token c_value c_fault c_number c_fives c_isLeft c_wentTimes c_goes c_isLeftLaid c_game c_rows c_columns c_isFound c_bestValue c_bestBelow c_bestShare c_share c_matrix c_system c_shares c_allShares) 5 [(0, .ref 0), (1, .int x1), (2, .int x2), (3, .int x3), (4, .int x4)] []) (hf : F10_isGoing_b54 z x1 x2 x4 s0 c_many c_gains c_isLeft k5 = some v) : xV (j10_isGoing) X 0 0 (hM c_thrown c_told c_read c_many c_eights c_gains c_notes c_seen c_turns c_drawn c_state c_tape c_taped c_size c_from c_next c_token c_value c_fault c_number c_fives c_isLeft c_wentTimes c_goes c_isLeftLaid c_game c_rows c_columns c_isFound c_bestValue c_bestBelow c_bestShare c_share c_matrix c_system c_shares c_allShares) 54 [(0, .ref 0), (1, .int x1), (2, .int x2), (4, .int x4)] [.int s0] := by
  unfold F10_isGoing_b54 at hf
  refine xV_istore_n (L' := [(3, .int s0), (0, .ref 0), (1, .int x1), (2, .int x2), (4, .int x4)]) 55 rfl dX10_isGoing_54 rfl (xlt rfl) rfl ?_
  refine xV_iinc (L' := [(4, .int (x4 + (1 : Int32))), (3, .int s0), (0, .ref 0), (1, .int x1), (2, .int x2)]) 58 rfl dX10_isGoing_55 4 rfl (xk_inc xk_i1) (xlt rfl) rfl ?_
  refine xV_goto (tgt := 5) dX10_isGoing_58 (by decide) ?_
  refine xV_sub [2, 3, 4, 1, 0] rfl ?_
  exact hk5 hf
def F10_isGoing_b5 (z : Nat) (w : Nat) (x1 : Int32) (x2 : Int32) (x3 : Int32) (x4 : Int32) (c_many : (Nat → Int32)) (c_gains : (Nat → Int32)) (c_isLeft : (Nat → Int32)) : Option (Int32) := match w with
  | 0 => none
  | w + 1 => xg (xin x1 2) (if (c_many (xn x1)) ≤ x4 then (xg (xbo x3) (some (x3))) else (if x3 = 0 then (xg (xin (((128 : Int32) * x1) + x4) 256) (if (c_isLeft (xn (((128 : Int32) * x1) + x4))) = 0 then (F10_isGoing_b54 z x1 x2 x4 (0 : Int32) c_many c_gains c_isLeft (fun q0 q1 q2 q3 q4 q5 q6 => F10_isGoing_b5 z w q0 q1 q2 q3 q4 q5 q6)) else ((F10_isWorse z x1 x2 x4 (1 : Int32) (0 : Int32) c_many c_gains c_isLeft).bind (fun v43 => if v43 = 0 then (F10_isGoing_b54 z x1 x2 x4 (0 : Int32) c_many c_gains c_isLeft (fun q0 q1 q2 q3 q4 q5 q6 => F10_isGoing_b5 z w q0 q1 q2 q3 q4 q5 q6)) else (F10_isGoing_b54 z x1 x2 x4 (1 : Int32) c_many c_gains c_isLeft (fun q0 q1 q2 q3 q4 q5 q6 => F10_isGoing_b5 z w q0 q1 q2 q3 q4 q5 q6)))))) else (xg (xbo x3) (some (x3)))))
theorem T10_isGoing_b5 {X : xX} {c_thrown : Int32} {c_told : (Nat → Int32)} {c_read : (Nat → Int32)} {c_many : (Nat → Int32)} {c_eights : (Nat → Int32)} {c_gains : (Nat → Int32)} {c_notes : (Nat → Int32)} {c_seen : (Nat → Int32)} {c_turns : (Nat → Int32)} {c_drawn : (Nat → Int32)} {c_state : Int32} {c_tape : (Nat → Int32)} {c_taped : Int32} {c_size : Int32} {c_from : Int32} {c_next : Int32} {c_token : Int32} {c_value : Int32} {c_fault : Int32} {c_number : Int32} {c_fives : (Nat → Int32)} {c_isLeft : (Nat → Int32)} {c_wentTimes : Int32} {c_goes : (Nat → Int32)} {c_isLeftLaid : Int32} {c_game : (Nat → Int32)} {c_rows : Int32} {c_columns : Int32} {c_isFound : Int32} {c_bestValue : Int64} {c_bestBelow : Int64} {c_bestShare : (Nat → Int64)} {c_share : (Nat → Int64)} {c_matrix : (Nat → Int64)} {c_system : (Nat → Int64)} {c_shares : (Nat → Int32)} {c_allShares : Int32} {z : Nat} {v : Int32} (hX : xIs (j10_isGoing) X ((some .boolean)) (some (.int v)) (hM c_thrown c_told c_read c_many c_eights c_gains c_notes c_seen c_turns c_drawn c_state c_tape c_taped c_size c_from c_next c_token c_value c_fault c_number c_fives c_isLeft c_wentTimes c_goes c_isLeftLaid c_game c_rows c_columns c_isFound c_bestValue c_bestBelow c_bestShare c_share c_matrix c_system c_shares c_allShares)) : ∀ (w : Nat) {x1 : Int32} {x2 : Int32} {x3 : Int32} {x4 : Int32}, F10_isGoing_b5 z w x1 x2 x3 x4 c_many c_gains c_isLeft = some v → xV (j10_isGoing) X 0 0 (hM c_thrown c_told c_read c_many c_eights c_gains c_notes c_seen c_turns c_drawn c_state c_tape c_taped c_size c_from c_next c_token c_value c_fault c_number c_fives c_isLeft c_wentTimes c_goes c_isLeftLaid c_game c_rows c_columns c_isFound c_bestValue c_bestBelow c_bestShare c_share c_matrix c_system c_shares c_allShares) 5 [(0, .ref 0), (1, .int x1), (2, .int x2), (3, .int x3), (4, .int x4)] [] := by
  intro w
  induction w with
  | zero => intro x1 x2 x3 x4 hf; cases hf
  | succ w ih =>
    intro x1 x2 x3 x4 hf
    unfold F10_isGoing_b5 at hf
    refine xV_iload 7 rfl dX10_isGoing_5 4 rfl ?_
    refine xV_aload_n 8 rfl dX10_isGoing_7 rfl 0 rfl ?_
    refine xV_get (v := .ref 3) 11 rfl dX10_isGoing_8 f10_24 rfl rfl ?_
    refine xV_iload_n 12 rfl dX10_isGoing_11 rfl 1 rfl ?_
    obtain ⟨hg12, hf⟩ := xg_s hf
    refine xV_iaload 13 rfl dX10_isGoing_12 rfl (xin_ok hg12) rfl ?_
    refine xV_icmp_ge (tgt := 61) 16 rfl dX10_isGoing_13 (by decide) (fun h13 => ?_) (fun h13 => ?_)
    · have hf := xif_t hf h13
      refine xV_iload_n 62 rfl dX10_isGoing_61 rfl 3 rfl ?_
      obtain ⟨hgr, hf⟩ := xg_s hf
      obtain rfl := Option.some.inj hf
      exact xV_iret hX dX10_isGoing_62 (xbo_ok hgr) (Nat.zero_le _) (Nat.zero_le _)
    · have hf := xif_f hf h13
      refine xV_iload_n 17 rfl dX10_isGoing_16 rfl 3 rfl ?_
      refine xV_if_ne (tgt := 61) 20 rfl dX10_isGoing_17 (by decide) (fun h17 => ?_) (fun h17 => ?_)
      · have hf := xif_f hf h17
        refine xV_iload_n 62 rfl dX10_isGoing_61 rfl 3 rfl ?_
        obtain ⟨hgr, hf⟩ := xg_s hf
        obtain rfl := Option.some.inj hf
        exact xV_iret hX dX10_isGoing_62 (xbo_ok hgr) (Nat.zero_le _) (Nat.zero_le _)
      · have hf := xif_t hf h17
        refine xV_aload_n 21 rfl dX10_isGoing_20 rfl 0 rfl ?_
        refine xV_get (v := .ref 12) 24 rfl dX10_isGoing_21 f10_53 rfl rfl ?_
        refine xV_sipush 27 rfl dX10_isGoing_24 xk_s128 ?_
        refine xV_iload_n 28 rfl dX10_isGoing_27 rfl 1 rfl ?_
        refine xV_imul 29 rfl dX10_isGoing_28 ?_
        refine xV_iload 31 rfl dX10_isGoing_29 4 rfl ?_
        refine xV_iadd 32 rfl dX10_isGoing_31 ?_
        obtain ⟨hg32, hf⟩ := xg_s hf
        refine xV_zaload 33 rfl dX10_isGoing_32 rfl (xin_ok hg32) rfl ?_
        refine xV_if_eq (tgt := 53) 36 rfl dX10_isGoing_33 (by decide) (fun h33 => ?_) (fun h33 => ?_)
        · have hf := xif_t hf h33
          refine xV_iconst 54 rfl dX10_isGoing_53 xk_i0 ?_
          refine xV_sub [0, 1, 2, 4] rfl ?_
          exact T10_isGoing_b54 hX (fun {_ _ _ _} hq => ih hq) hf
        · have hf := xif_f hf h33
          refine xV_aload_n 37 rfl dX10_isGoing_36 rfl 0 rfl ?_
          refine xV_iload_n 38 rfl dX10_isGoing_37 rfl 1 rfl ?_
          refine xV_iload_n 39 rfl dX10_isGoing_38 rfl 2 rfl ?_
          refine xV_iload 41 rfl dX10_isGoing_39 4 rfl ?_
          refine xV_iconst 42 rfl dX10_isGoing_41 xk_i1 ?_
          refine xV_iconst 43 rfl dX10_isGoing_42 xk_i0 ?_
          obtain ⟨v43, hv43, hf⟩ := xb_s hf
          refine xV_same (rest := []) 46 rfl dX10_isGoing_43 rfl (C10_isWorse X.1.2.1 hv43) m10_isWorse v10_isWorse k10_236 rfl rfl rfl rfl rfl (Nat.le_of_ble_eq_true rfl) (Nat.le_of_ble_eq_true rfl) (Nat.le_of_ble_eq_true rfl) ⟨Nat.le_refl _, Nat.le_refl _⟩ ?_
          show xV (j10_isGoing) X 0 0 (hM c_thrown c_told c_read c_many c_eights c_gains c_notes c_seen c_turns c_drawn c_state c_tape c_taped c_size c_from c_next c_token c_value c_fault c_number c_fives c_isLeft c_wentTimes c_goes c_isLeftLaid c_game c_rows c_columns c_isFound c_bestValue c_bestBelow c_bestShare c_share c_matrix c_system c_shares c_allShares) 46 [(0, .ref 0), (1, .int x1), (2, .int x2), (3, .int x3), (4, .int x4)] [.int v43]
          refine xV_if_eq (tgt := 53) 49 rfl dX10_isGoing_46 (by decide) (fun h46 => ?_) (fun h46 => ?_)
          · have hf := xif_t hf h46
            refine xV_iconst 54 rfl dX10_isGoing_53 xk_i0 ?_
            refine xV_sub [0, 1, 2, 4] rfl ?_
            exact T10_isGoing_b54 hX (fun {_ _ _ _} hq => ih hq) hf
          · have hf := xif_f hf h46
            refine xV_iconst 50 rfl dX10_isGoing_49 xk_i1 ?_
            refine xV_goto (tgt := 54) dX10_isGoing_50 (by decide) ?_
            refine xV_sub [0, 1, 2, 4] rfl ?_
            exact T10_isGoing_b54 hX (fun {_ _ _ _} hq => ih hq) hf
def F10_isGoing (z : Nat) (x1 : Int32) (x2 : Int32) (c_many : (Nat → Int32)) (c_gains : (Nat → Int32)) (c_isLeft : (Nat → Int32)) : Option (Int32) :=
  F10_isGoing_b5 z z x1 x2 (0 : Int32) (0 : Int32) c_many c_gains c_isLeft
theorem T10_isGoing {X : xX} {z : Nat} {x1 : Int32} {x2 : Int32} {c_many : (Nat → Int32)} {c_gains : (Nat → Int32)} {c_isLeft : (Nat → Int32)} {c_thrown : Int32} {c_told : (Nat → Int32)} {c_read : (Nat → Int32)} {c_eights : (Nat → Int32)} {c_notes : (Nat → Int32)} {c_seen : (Nat → Int32)} {c_turns : (Nat → Int32)} {c_drawn : (Nat → Int32)} {c_state : Int32} {c_tape : (Nat → Int32)} {c_taped : Int32} {c_size : Int32} {c_from : Int32} {c_next : Int32} {c_token : Int32} {c_value : Int32} {c_fault : Int32} {c_number : Int32} {c_fives : (Nat → Int32)} {c_wentTimes : Int32} {c_goes : (Nat → Int32)} {c_isLeftLaid : Int32} {c_game : (Nat → Int32)} {c_rows : Int32} {c_columns : Int32} {c_isFound : Int32} {c_bestValue : Int64} {c_bestBelow : Int64} {c_bestShare : (Nat → Int64)} {c_share : (Nat → Int64)} {c_matrix : (Nat → Int64)} {c_system : (Nat → Int64)} {c_shares : (Nat → Int32)} {c_allShares : Int32} {v : Int32} (hX : xIs (j10_isGoing) X ((some .boolean)) (some (.int v)) (hM c_thrown c_told c_read c_many c_eights c_gains c_notes c_seen c_turns c_drawn c_state c_tape c_taped c_size c_from c_next c_token c_value c_fault c_number c_fives c_isLeft c_wentTimes c_goes c_isLeftLaid c_game c_rows c_columns c_isFound c_bestValue c_bestBelow c_bestShare c_share c_matrix c_system c_shares c_allShares)) (hf : F10_isGoing z x1 x2 c_many c_gains c_isLeft = some v) : xV (j10_isGoing) X 0 0 (hM c_thrown c_told c_read c_many c_eights c_gains c_notes c_seen c_turns c_drawn c_state c_tape c_taped c_size c_from c_next c_token c_value c_fault c_number c_fives c_isLeft c_wentTimes c_goes c_isLeftLaid c_game c_rows c_columns c_isFound c_bestValue c_bestBelow c_bestShare c_share c_matrix c_system c_shares c_allShares) 0 [(0, .ref 0), (1, .int x1), (2, .int x2)] [] := by
  unfold F10_isGoing at hf
  refine xV_iconst 1 rfl dX10_isGoing_0 xk_i0 ?_
  refine xV_istore_n (L' := [(3, .int (0 : Int32)), (0, .ref 0), (1, .int x1), (2, .int x2)]) 2 rfl dX10_isGoing_1 rfl (xlt rfl) rfl ?_
  refine xV_iconst 3 rfl dX10_isGoing_2 xk_i0 ?_
  refine xV_istore (L' := [(4, .int (0 : Int32)), (3, .int (0 : Int32)), (0, .ref 0), (1, .int x1), (2, .int x2)]) 5 rfl dX10_isGoing_3 (xlt rfl) rfl ?_
  refine xV_sub [2, 3, 4, 1, 0] rfl ?_
  exact T10_isGoing_b5 hX _ hf
theorem C10_isGoing (l : Launch) {z : Nat} {x1 : Int32} {x2 : Int32} {c_many : (Nat → Int32)} {c_gains : (Nat → Int32)} {c_isLeft : (Nat → Int32)} {c_thrown : Int32} {c_told : (Nat → Int32)} {c_read : (Nat → Int32)} {c_eights : (Nat → Int32)} {c_notes : (Nat → Int32)} {c_seen : (Nat → Int32)} {c_turns : (Nat → Int32)} {c_drawn : (Nat → Int32)} {c_state : Int32} {c_tape : (Nat → Int32)} {c_taped : Int32} {c_size : Int32} {c_from : Int32} {c_next : Int32} {c_token : Int32} {c_value : Int32} {c_fault : Int32} {c_number : Int32} {c_fives : (Nat → Int32)} {c_wentTimes : Int32} {c_goes : (Nat → Int32)} {c_isLeftLaid : Int32} {c_game : (Nat → Int32)} {c_rows : Int32} {c_columns : Int32} {c_isFound : Int32} {c_bestValue : Int64} {c_bestBelow : Int64} {c_bestShare : (Nat → Int64)} {c_share : (Nat → Int64)} {c_matrix : (Nat → Int64)} {c_system : (Nat → Int64)} {c_shares : (Nat → Int32)} {c_allShares : Int32} {v : Int32} (hf : F10_isGoing z x1 x2 c_many c_gains c_isLeft = some v) : xCt l yX10_isGoing ((some .boolean)) j10_isGoing [.ref 0, .int x1, .int x2] (hM c_thrown c_told c_read c_many c_eights c_gains c_notes c_seen c_turns c_drawn c_state c_tape c_taped c_size c_from c_next c_token c_value c_fault c_number c_fives c_isLeft c_wentTimes c_goes c_isLeftLaid c_game c_rows c_columns c_isFound c_bestValue c_bestBelow c_bestShare c_share c_matrix c_system c_shares c_allShares) (some (.int v)) (hM c_thrown c_told c_read c_many c_eights c_gains c_notes c_seen c_turns c_drawn c_state c_tape c_taped c_size c_from c_next c_token c_value c_fault c_number c_fives c_isLeft c_wentTimes c_goes c_isLeftLaid c_game c_rows c_columns c_isFound c_bestValue c_bestBelow c_bestShare c_share c_matrix c_system c_shares c_allShares) := xCt_of (by decide) rfl (Nat.le_of_ble_eq_true rfl) (fun _ hX => T10_isGoing hX hf)
theorem m10_isGoing : xMd yX10_isGoing RX10 ((some .boolean)) j10_isGoing 2 := ⟨List.mem_of_getElem? (i := 762) (by decide +kernel), List.mem_of_getElem? (i := 5) (by decide +kernel), rfl, by decide +kernel⟩
theorem v10_isGoing : xMv yX10_isGoing RX10 := ⟨List.mem_of_getElem? (i := 760) (by decide +kernel), List.mem_of_getElem? (i := 761) (by decide +kernel)⟩
theorem f10_240 : xFl RX10 240 10 22 := ⟨_, rfl, by decide, List.mem_of_getElem? (i := 758) (by decide +kernel)⟩
theorem nf10_22 : ∀ q : vw_C, vwCl[10]? = some q → (q.2.1 22).2.2.2 = false := fun q e => by cases e; rfl
theorem f10_57 : xFl RX10 57 10 23 := ⟨_, rfl, by decide, List.mem_of_getElem? (i := 137) (by decide +kernel)⟩
theorem k10_243 : Cond.methodLink RX10 243 yX10_isGoing ∈ wsL_law0 := List.mem_of_getElem? (i := 759) (by decide +kernel)
theorem dX10_laysLeft_0 : decode cX10_laysLeft 0 = .ok (.aload_n 0, 1) := by decide +kernel
theorem dX10_laysLeft_1 : decode cX10_laysLeft 1 = .ok (.getfield 98, 3) := by decide +kernel
theorem dX10_laysLeft_4 : decode cX10_laysLeft 4 = .ok (.ifCond .eq 4, 3) := by decide +kernel
theorem dX10_laysLeft_7 : decode cX10_laysLeft 7 = .ok (.return_, 1) := by decide +kernel
theorem dX10_laysLeft_8 : decode cX10_laysLeft 8 = .ok (.aload_n 0, 1) := by decide +kernel
theorem dX10_laysLeft_9 : decode cX10_laysLeft 9 = .ok (.iconst 1, 1) := by decide +kernel
theorem dX10_laysLeft_10 : decode cX10_laysLeft 10 = .ok (.putfield 98, 3) := by decide +kernel
theorem dX10_laysLeft_13 : decode cX10_laysLeft 13 = .ok (.iconst 0, 1) := by decide +kernel
theorem dX10_laysLeft_14 : decode cX10_laysLeft 14 = .ok (.istore_n 1, 1) := by decide +kernel
theorem dX10_laysLeft_15 : decode cX10_laysLeft 15 = .ok (.iload_n 1, 1) := by decide +kernel
theorem dX10_laysLeft_16 : decode cX10_laysLeft 16 = .ok (.sipush 256, 3) := by decide +kernel
theorem dX10_laysLeft_19 : decode cX10_laysLeft 19 = .ok (.if_icmp .ge 38, 3) := by decide +kernel
theorem dX10_laysLeft_22 : decode cX10_laysLeft 22 = .ok (.aload_n 0, 1) := by decide +kernel
theorem dX10_laysLeft_23 : decode cX10_laysLeft 23 = .ok (.getfield 53, 3) := by decide +kernel
theorem dX10_laysLeft_26 : decode cX10_laysLeft 26 = .ok (.iload_n 1, 1) := by decide +kernel
theorem dX10_laysLeft_27 : decode cX10_laysLeft 27 = .ok (.iload_n 1, 1) := by decide +kernel
theorem dX10_laysLeft_28 : decode cX10_laysLeft 28 = .ok (.sipush 128, 3) := by decide +kernel
theorem dX10_laysLeft_31 : decode cX10_laysLeft 31 = .ok (.irem, 1) := by decide +kernel
theorem dX10_laysLeft_32 : decode cX10_laysLeft 32 = .ok (.aload_n 0, 1) := by decide +kernel
theorem dX10_laysLeft_33 : decode cX10_laysLeft 33 = .ok (.getfield 24, 3) := by decide +kernel
theorem dX10_laysLeft_36 : decode cX10_laysLeft 36 = .ok (.iload_n 1, 1) := by decide +kernel
theorem dX10_laysLeft_37 : decode cX10_laysLeft 37 = .ok (.sipush 128, 3) := by decide +kernel
theorem dX10_laysLeft_40 : decode cX10_laysLeft 40 = .ok (.idiv, 1) := by decide +kernel
theorem dX10_laysLeft_41 : decode cX10_laysLeft 41 = .ok (.iaload, 1) := by decide +kernel
theorem dX10_laysLeft_42 : decode cX10_laysLeft 42 = .ok (.if_icmp .ge 7, 3) := by decide +kernel
theorem dX10_laysLeft_45 : decode cX10_laysLeft 45 = .ok (.iconst 1, 1) := by decide +kernel
theorem dX10_laysLeft_46 : decode cX10_laysLeft 46 = .ok (.goto 4, 3) := by decide +kernel
theorem dX10_laysLeft_49 : decode cX10_laysLeft 49 = .ok (.iconst 0, 1) := by decide +kernel
theorem dX10_laysLeft_50 : decode cX10_laysLeft 50 = .ok (.bastore, 1) := by decide +kernel
theorem dX10_laysLeft_51 : decode cX10_laysLeft 51 = .ok (.iinc 1 1, 3) := by decide +kernel
theorem dX10_laysLeft_54 : decode cX10_laysLeft 54 = .ok (.goto (-39), 3) := by decide +kernel
theorem dX10_laysLeft_57 : decode cX10_laysLeft 57 = .ok (.aload_n 0, 1) := by decide +kernel
theorem dX10_laysLeft_58 : decode cX10_laysLeft 58 = .ok (.iconst 0, 1) := by decide +kernel
theorem dX10_laysLeft_59 : decode cX10_laysLeft 59 = .ok (.putfield 240, 3) := by decide +kernel
theorem dX10_laysLeft_62 : decode cX10_laysLeft 62 = .ok (.iconst 1, 1) := by decide +kernel
theorem dX10_laysLeft_63 : decode cX10_laysLeft 63 = .ok (.istore_n 1, 1) := by decide +kernel
theorem dX10_laysLeft_64 : decode cX10_laysLeft 64 = .ok (.iload_n 1, 1) := by decide +kernel
theorem dX10_laysLeft_65 : decode cX10_laysLeft 65 = .ok (.ifCond .eq 141, 3) := by decide +kernel
theorem dX10_laysLeft_68 : decode cX10_laysLeft 68 = .ok (.iconst 0, 1) := by decide +kernel
theorem dX10_laysLeft_69 : decode cX10_laysLeft 69 = .ok (.istore_n 1, 1) := by decide +kernel
theorem dX10_laysLeft_70 : decode cX10_laysLeft 70 = .ok (.iconst 0, 1) := by decide +kernel
theorem dX10_laysLeft_71 : decode cX10_laysLeft 71 = .ok (.istore_n 2, 1) := by decide +kernel
theorem dX10_laysLeft_72 : decode cX10_laysLeft 72 = .ok (.iload_n 2, 1) := by decide +kernel
theorem dX10_laysLeft_73 : decode cX10_laysLeft 73 = .ok (.sipush 256, 3) := by decide +kernel
theorem dX10_laysLeft_76 : decode cX10_laysLeft 76 = .ok (.if_icmp .ge 65, 3) := by decide +kernel
theorem dX10_laysLeft_79 : decode cX10_laysLeft 79 = .ok (.aload_n 0, 1) := by decide +kernel
theorem dX10_laysLeft_80 : decode cX10_laysLeft 80 = .ok (.getfield 57, 3) := by decide +kernel
theorem dX10_laysLeft_83 : decode cX10_laysLeft 83 = .ok (.iload_n 2, 1) := by decide +kernel
theorem dX10_laysLeft_84 : decode cX10_laysLeft 84 = .ok (.aload_n 0, 1) := by decide +kernel
theorem dX10_laysLeft_85 : decode cX10_laysLeft 85 = .ok (.getfield 53, 3) := by decide +kernel
theorem dX10_laysLeft_88 : decode cX10_laysLeft 88 = .ok (.iload_n 2, 1) := by decide +kernel
theorem dX10_laysLeft_89 : decode cX10_laysLeft 89 = .ok (.baload, 1) := by decide +kernel
theorem dX10_laysLeft_90 : decode cX10_laysLeft 90 = .ok (.ifCond .eq 24, 3) := by decide +kernel
theorem dX10_laysLeft_93 : decode cX10_laysLeft 93 = .ok (.aload_n 0, 1) := by decide +kernel
theorem dX10_laysLeft_94 : decode cX10_laysLeft 94 = .ok (.iload_n 2, 1) := by decide +kernel
theorem dX10_laysLeft_95 : decode cX10_laysLeft 95 = .ok (.sipush 128, 3) := by decide +kernel
theorem dX10_laysLeft_98 : decode cX10_laysLeft 98 = .ok (.idiv, 1) := by decide +kernel
theorem dX10_laysLeft_99 : decode cX10_laysLeft 99 = .ok (.iload_n 2, 1) := by decide +kernel
theorem dX10_laysLeft_100 : decode cX10_laysLeft 100 = .ok (.sipush 128, 3) := by decide +kernel
theorem dX10_laysLeft_103 : decode cX10_laysLeft 103 = .ok (.irem, 1) := by decide +kernel
theorem dX10_laysLeft_104 : decode cX10_laysLeft 104 = .ok (.invokevirtual 243, 3) := by decide +kernel
theorem dX10_laysLeft_107 : decode cX10_laysLeft 107 = .ok (.ifCond .eq 7, 3) := by decide +kernel
theorem dX10_laysLeft_110 : decode cX10_laysLeft 110 = .ok (.iconst 1, 1) := by decide +kernel
theorem dX10_laysLeft_111 : decode cX10_laysLeft 111 = .ok (.goto 4, 3) := by decide +kernel
theorem dX10_laysLeft_114 : decode cX10_laysLeft 114 = .ok (.iconst 0, 1) := by decide +kernel
theorem dX10_laysLeft_115 : decode cX10_laysLeft 115 = .ok (.bastore, 1) := by decide +kernel
theorem dX10_laysLeft_116 : decode cX10_laysLeft 116 = .ok (.iload_n 1, 1) := by decide +kernel
theorem dX10_laysLeft_117 : decode cX10_laysLeft 117 = .ok (.ifCond .ne 12, 3) := by decide +kernel
theorem dX10_laysLeft_120 : decode cX10_laysLeft 120 = .ok (.aload_n 0, 1) := by decide +kernel
theorem dX10_laysLeft_121 : decode cX10_laysLeft 121 = .ok (.getfield 57, 3) := by decide +kernel
theorem dX10_laysLeft_124 : decode cX10_laysLeft 124 = .ok (.iload_n 2, 1) := by decide +kernel
theorem dX10_laysLeft_125 : decode cX10_laysLeft 125 = .ok (.baload, 1) := by decide +kernel
theorem dX10_laysLeft_126 : decode cX10_laysLeft 126 = .ok (.ifCond .eq 7, 3) := by decide +kernel
theorem dX10_laysLeft_129 : decode cX10_laysLeft 129 = .ok (.iconst 1, 1) := by decide +kernel
theorem dX10_laysLeft_130 : decode cX10_laysLeft 130 = .ok (.goto 4, 3) := by decide +kernel
theorem dX10_laysLeft_133 : decode cX10_laysLeft 133 = .ok (.iconst 0, 1) := by decide +kernel
theorem dX10_laysLeft_134 : decode cX10_laysLeft 134 = .ok (.istore_n 1, 1) := by decide +kernel
theorem dX10_laysLeft_135 : decode cX10_laysLeft 135 = .ok (.iinc 2 1, 3) := by decide +kernel
theorem dX10_laysLeft_138 : decode cX10_laysLeft 138 = .ok (.goto (-66), 3) := by decide +kernel
theorem dX10_laysLeft_141 : decode cX10_laysLeft 141 = .ok (.iconst 0, 1) := by decide +kernel
theorem dX10_laysLeft_142 : decode cX10_laysLeft 142 = .ok (.istore_n 2, 1) := by decide +kernel
theorem dX10_laysLeft_143 : decode cX10_laysLeft 143 = .ok (.iload_n 2, 1) := by decide +kernel
theorem dX10_laysLeft_144 : decode cX10_laysLeft 144 = .ok (.sipush 256, 3) := by decide +kernel
theorem dX10_laysLeft_147 : decode cX10_laysLeft 147 = .ok (.if_icmp .ge 38, 3) := by decide +kernel
theorem dX10_laysLeft_150 : decode cX10_laysLeft 150 = .ok (.aload_n 0, 1) := by decide +kernel
theorem dX10_laysLeft_151 : decode cX10_laysLeft 151 = .ok (.getfield 53, 3) := by decide +kernel
theorem dX10_laysLeft_154 : decode cX10_laysLeft 154 = .ok (.iload_n 2, 1) := by decide +kernel
theorem dX10_laysLeft_155 : decode cX10_laysLeft 155 = .ok (.aload_n 0, 1) := by decide +kernel
theorem dX10_laysLeft_156 : decode cX10_laysLeft 156 = .ok (.getfield 53, 3) := by decide +kernel
theorem dX10_laysLeft_159 : decode cX10_laysLeft 159 = .ok (.iload_n 2, 1) := by decide +kernel
theorem dX10_laysLeft_160 : decode cX10_laysLeft 160 = .ok (.baload, 1) := by decide +kernel
theorem dX10_laysLeft_161 : decode cX10_laysLeft 161 = .ok (.ifCond .eq 16, 3) := by decide +kernel
theorem dX10_laysLeft_164 : decode cX10_laysLeft 164 = .ok (.aload_n 0, 1) := by decide +kernel
theorem dX10_laysLeft_165 : decode cX10_laysLeft 165 = .ok (.getfield 57, 3) := by decide +kernel
theorem dX10_laysLeft_168 : decode cX10_laysLeft 168 = .ok (.iload_n 2, 1) := by decide +kernel
theorem dX10_laysLeft_169 : decode cX10_laysLeft 169 = .ok (.baload, 1) := by decide +kernel
theorem dX10_laysLeft_170 : decode cX10_laysLeft 170 = .ok (.ifCond .ne 7, 3) := by decide +kernel
theorem dX10_laysLeft_173 : decode cX10_laysLeft 173 = .ok (.iconst 1, 1) := by decide +kernel
theorem dX10_laysLeft_174 : decode cX10_laysLeft 174 = .ok (.goto 4, 3) := by decide +kernel
theorem dX10_laysLeft_177 : decode cX10_laysLeft 177 = .ok (.iconst 0, 1) := by decide +kernel
theorem dX10_laysLeft_178 : decode cX10_laysLeft 178 = .ok (.bastore, 1) := by decide +kernel
theorem dX10_laysLeft_179 : decode cX10_laysLeft 179 = .ok (.iinc 2 1, 3) := by decide +kernel
theorem dX10_laysLeft_182 : decode cX10_laysLeft 182 = .ok (.goto (-39), 3) := by decide +kernel
theorem dX10_laysLeft_185 : decode cX10_laysLeft 185 = .ok (.aload_n 0, 1) := by decide +kernel
theorem dX10_laysLeft_186 : decode cX10_laysLeft 186 = .ok (.dup, 1) := by decide +kernel
theorem dX10_laysLeft_187 : decode cX10_laysLeft 187 = .ok (.getfield 240, 3) := by decide +kernel
theorem dX10_laysLeft_190 : decode cX10_laysLeft 190 = .ok (.iload_n 1, 1) := by decide +kernel
theorem dX10_laysLeft_191 : decode cX10_laysLeft 191 = .ok (.ifCond .eq 7, 3) := by decide +kernel
theorem dX10_laysLeft_194 : decode cX10_laysLeft 194 = .ok (.iconst 1, 1) := by decide +kernel
theorem dX10_laysLeft_195 : decode cX10_laysLeft 195 = .ok (.goto 4, 3) := by decide +kernel
theorem dX10_laysLeft_198 : decode cX10_laysLeft 198 = .ok (.iconst 0, 1) := by decide +kernel
theorem dX10_laysLeft_199 : decode cX10_laysLeft 199 = .ok (.iadd, 1) := by decide +kernel
theorem dX10_laysLeft_200 : decode cX10_laysLeft 200 = .ok (.putfield 240, 3) := by decide +kernel
theorem dX10_laysLeft_203 : decode cX10_laysLeft 203 = .ok (.goto (-139), 3) := by decide +kernel
theorem dX10_laysLeft_206 : decode cX10_laysLeft 206 = .ok (.return_, 1) := by decide +kernel
abbrev j10_laysLeft : xJ := (cX10_laysLeft, 3, RX10, 4, 0, 0)
def F10_laysLeft_b199 (z : Nat) (x1 : Int32) (s1 : Int32) (s2 : Int32) (c_many : (Nat → Int32)) (c_gains : (Nat → Int32)) (c_isLeft : (Nat → Int32)) (c_wentTimes : Int32) (c_goes : (Nat → Int32)) (c_isLeftLaid : Int32) (k64 : Int32 → (Nat → Int32) → (Nat → Int32) → (Nat → Int32) → Int32 → (Nat → Int32) → Int32 → Option ((Nat → Int32) × Int32 × (Nat → Int32) × Int32)) : Option ((Nat → Int32) × Int32 × (Nat → Int32) × Int32) :=
  k64 x1 c_many c_gains c_isLeft (s1 + s2) c_goes c_isLeftLaid
theorem T10_laysLeft_b199 {X : xX} {c_thrown : Int32} {c_told : (Nat → Int32)} {c_read : (Nat → Int32)} {c_eights : (Nat → Int32)} {c_notes : (Nat → Int32)} {c_seen : (Nat → Int32)} {c_turns : (Nat → Int32)} {c_drawn : (Nat → Int32)} {c_state : Int32} {c_tape : (Nat → Int32)} {c_taped : Int32} {c_size : Int32} {c_from : Int32} {c_next : Int32} {c_token : Int32} {c_value : Int32} {c_fault : Int32} {c_number : Int32} {c_fives : (Nat → Int32)} {c_game : (Nat → Int32)} {c_rows : Int32} {c_columns : Int32} {c_isFound : Int32} {c_bestValue : Int64} {c_bestBelow : Int64} {c_bestShare : (Nat → Int64)} {c_share : (Nat → Int64)} {c_matrix : (Nat → Int64)} {c_system : (Nat → Int64)} {c_shares : (Nat → Int32)} {c_allShares : Int32} {x1 : Int32} {s1 : Int32} {s2 : Int32} {c_many : (Nat → Int32)} {c_gains : (Nat → Int32)} {c_isLeft : (Nat → Int32)} {c_wentTimes : Int32} {c_goes : (Nat → Int32)} {c_isLeftLaid : Int32} {z : Nat} {v : (Nat → Int32) × Int32 × (Nat → Int32) × Int32} {k64 : Int32 → (Nat → Int32) → (Nat → Int32) → (Nat → Int32) → Int32 → (Nat → Int32) → Int32 → Option ((Nat → Int32) × Int32 × (Nat → Int32) × Int32)} (hX : xIs (j10_laysLeft) X none none (hM c_thrown c_told c_read c_many c_eights c_gains c_notes c_seen c_turns c_drawn c_state c_tape c_taped c_size c_from c_next c_token c_value c_fault c_number c_fives v.1 v.2.1 v.2.2.1 v.2.2.2 c_game c_rows c_columns c_isFound c_bestValue c_bestBelow c_bestShare c_share c_matrix c_system c_shares c_allShares)) (hk64 : ∀ {x1 : Int32} {c_isLeft : (Nat → Int32)} {c_wentTimes : Int32} {c_goes : (Nat → Int32)} {c_isLeftLaid : Int32}, k64 x1 c_many c_gains c_isLeft c_wentTimes c_goes c_isLeftLaid = some v → xV (j10_laysLeft) X 0 0 (hM c_thrown c_told c_read c_many c_eights c_gains c_notes c_seen c_turns c_drawn c_state c_tape c_taped c_size c_from c_next c_token c_value c_fault c_number c_fives c_isLeft c_wentTimes c_goes c_isLeftLaid c_game c_rows c_columns c_isFound c_bestValue c_bestBelow c_bestShare c_share c_matrix c_system c_shares c_allShares) 64 [(0, .ref 0), (1, .int x1)] []) (hf : F10_laysLeft_b199 z x1 s1 s2 c_many c_gains c_isLeft c_wentTimes c_goes c_isLeftLaid k64 = some v) : xV (j10_laysLeft) X 0 0 (hM c_thrown c_told c_read c_many c_eights c_gains c_notes c_seen c_turns c_drawn c_state c_tape c_taped c_size c_from c_next c_token c_value c_fault c_number c_fives c_isLeft c_wentTimes c_goes c_isLeftLaid c_game c_rows c_columns c_isFound c_bestValue c_bestBelow c_bestShare c_share c_matrix c_system c_shares c_allShares) 199 [(0, .ref 0), (1, .int x1)] [.int s2, .int s1, .ref 0] := by
  unfold F10_laysLeft_b199 at hf
  refine xV_iadd 200 rfl dX10_laysLeft_199 ?_
  refine xV_put (h' := (hM c_thrown c_told c_read c_many c_eights c_gains c_notes c_seen c_turns c_drawn c_state c_tape c_taped c_size c_from c_next c_token c_value c_fault c_number c_fives c_isLeft (s1 + s2) c_goes c_isLeftLaid c_game c_rows c_columns c_isFound c_bestValue c_bestBelow c_bestShare c_share c_matrix c_system c_shares c_allShares)) 203 rfl dX10_laysLeft_200 f10_240 rfl nf10_22 (fun _ => rfl) (fun _ => rfl) (Nat.le_of_ble_eq_true rfl) rfl ?_
  refine xV_goto (tgt := 64) dX10_laysLeft_203 (by decide) ?_
  exact hk64 hf
def F10_laysLeft_b185 (z : Nat) (x1 : Int32) (c_many : (Nat → Int32)) (c_gains : (Nat → Int32)) (c_isLeft : (Nat → Int32)) (c_wentTimes : Int32) (c_goes : (Nat → Int32)) (c_isLeftLaid : Int32) (k64 : Int32 → (Nat → Int32) → (Nat → Int32) → (Nat → Int32) → Int32 → (Nat → Int32) → Int32 → Option ((Nat → Int32) × Int32 × (Nat → Int32) × Int32)) : Option ((Nat → Int32) × Int32 × (Nat → Int32) × Int32) :=
  if x1 = 0 then (F10_laysLeft_b199 z x1 c_wentTimes (0 : Int32) c_many c_gains c_isLeft c_wentTimes c_goes c_isLeftLaid k64) else (F10_laysLeft_b199 z x1 c_wentTimes (1 : Int32) c_many c_gains c_isLeft c_wentTimes c_goes c_isLeftLaid k64)
theorem T10_laysLeft_b185 {X : xX} {c_thrown : Int32} {c_told : (Nat → Int32)} {c_read : (Nat → Int32)} {c_eights : (Nat → Int32)} {c_notes : (Nat → Int32)} {c_seen : (Nat → Int32)} {c_turns : (Nat → Int32)} {c_drawn : (Nat → Int32)} {c_state : Int32} {c_tape : (Nat → Int32)} {c_taped : Int32} {c_size : Int32} {c_from : Int32} {c_next : Int32} {c_token : Int32} {c_value : Int32} {c_fault : Int32} {c_number : Int32} {c_fives : (Nat → Int32)} {c_game : (Nat → Int32)} {c_rows : Int32} {c_columns : Int32} {c_isFound : Int32} {c_bestValue : Int64} {c_bestBelow : Int64} {c_bestShare : (Nat → Int64)} {c_share : (Nat → Int64)} {c_matrix : (Nat → Int64)} {c_system : (Nat → Int64)} {c_shares : (Nat → Int32)} {c_allShares : Int32} {x1 : Int32} {c_many : (Nat → Int32)} {c_gains : (Nat → Int32)} {c_isLeft : (Nat → Int32)} {c_wentTimes : Int32} {c_goes : (Nat → Int32)} {c_isLeftLaid : Int32} {z : Nat} {v : (Nat → Int32) × Int32 × (Nat → Int32) × Int32} {k64 : Int32 → (Nat → Int32) → (Nat → Int32) → (Nat → Int32) → Int32 → (Nat → Int32) → Int32 → Option ((Nat → Int32) × Int32 × (Nat → Int32) × Int32)} (hX : xIs (j10_laysLeft) X none none (hM c_thrown c_told c_read c_many c_eights c_gains c_notes c_seen c_turns c_drawn c_state c_tape c_taped c_size c_from c_next c_token c_value c_fault c_number c_fives v.1 v.2.1 v.2.2.1 v.2.2.2 c_game c_rows c_columns c_isFound c_bestValue c_bestBelow c_bestShare c_share c_matrix c_system c_shares c_allShares)) (hk64 : ∀ {x1 : Int32} {c_isLeft : (Nat → Int32)} {c_wentTimes : Int32} {c_goes : (Nat → Int32)} {c_isLeftLaid : Int32}, k64 x1 c_many c_gains c_isLeft c_wentTimes c_goes c_isLeftLaid = some v → xV (j10_laysLeft) X 0 0 (hM c_thrown c_told c_read c_many c_eights c_gains c_notes c_seen c_turns c_drawn c_state c_tape c_taped c_size c_from c_next c_token c_value c_fault c_number c_fives c_isLeft c_wentTimes c_goes c_isLeftLaid c_game c_rows c_columns c_isFound c_bestValue c_bestBelow c_bestShare c_share c_matrix c_system c_shares c_allShares) 64 [(0, .ref 0), (1, .int x1)] []) (hf : F10_laysLeft_b185 z x1 c_many c_gains c_isLeft c_wentTimes c_goes c_isLeftLaid k64 = some v) : xV (j10_laysLeft) X 0 0 (hM c_thrown c_told c_read c_many c_eights c_gains c_notes c_seen c_turns c_drawn c_state c_tape c_taped c_size c_from c_next c_token c_value c_fault c_number c_fives c_isLeft c_wentTimes c_goes c_isLeftLaid c_game c_rows c_columns c_isFound c_bestValue c_bestBelow c_bestShare c_share c_matrix c_system c_shares c_allShares) 185 [(0, .ref 0), (1, .int x1)] [] := by
  unfold F10_laysLeft_b185 at hf
  refine xV_aload_n 186 rfl dX10_laysLeft_185 rfl 0 rfl ?_
  refine xV_dup 187 rfl dX10_laysLeft_186 rfl ?_
  refine xV_get (v := .int c_wentTimes) 190 rfl dX10_laysLeft_187 f10_240 rfl rfl ?_
  refine xV_iload_n 191 rfl dX10_laysLeft_190 rfl 1 rfl ?_
  refine xV_if_eq (tgt := 198) 194 rfl dX10_laysLeft_191 (by decide) (fun h191 => ?_) (fun h191 => ?_)
  · have hf := xif_t hf h191
    refine xV_iconst 199 rfl dX10_laysLeft_198 xk_i0 ?_
    exact T10_laysLeft_b199 hX hk64 hf
  · have hf := xif_f hf h191
    refine xV_iconst 195 rfl dX10_laysLeft_194 xk_i1 ?_
    refine xV_goto (tgt := 199) dX10_laysLeft_195 (by decide) ?_
    exact T10_laysLeft_b199 hX hk64 hf
def F10_laysLeft_b178 (z : Nat) (x1 : Int32) (x2 : Int32) (s1 : Int32) (s2 : Int32) (c_many : (Nat → Int32)) (c_gains : (Nat → Int32)) (c_isLeft : (Nat → Int32)) (c_wentTimes : Int32) (c_goes : (Nat → Int32)) (c_isLeftLaid : Int32) (k64 : Int32 → (Nat → Int32) → (Nat → Int32) → (Nat → Int32) → Int32 → (Nat → Int32) → Int32 → Option ((Nat → Int32) × Int32 × (Nat → Int32) × Int32)) (k143 : Int32 → Int32 → (Nat → Int32) → (Nat → Int32) → (Nat → Int32) → Int32 → (Nat → Int32) → Int32 → Option ((Nat → Int32) × Int32 × (Nat → Int32) × Int32)) : Option ((Nat → Int32) × Int32 × (Nat → Int32) × Int32) :=
  xg (xin s1 256) (k143 x1 (x2 + (1 : Int32)) c_many c_gains (upd c_isLeft (xn s1) (vp_nar .boolean s2)) c_wentTimes c_goes c_isLeftLaid)
theorem T10_laysLeft_b178 {X : xX} {c_thrown : Int32} {c_told : (Nat → Int32)} {c_read : (Nat → Int32)} {c_eights : (Nat → Int32)} {c_notes : (Nat → Int32)} {c_seen : (Nat → Int32)} {c_turns : (Nat → Int32)} {c_drawn : (Nat → Int32)} {c_state : Int32} {c_tape : (Nat → Int32)} {c_taped : Int32} {c_size : Int32} {c_from : Int32} {c_next : Int32} {c_token : Int32} {c_value : Int32} {c_fault : Int32} {c_number : Int32} {c_fives : (Nat → Int32)} {c_game : (Nat → Int32)} {c_rows : Int32} {c_columns : Int32} {c_isFound : Int32} {c_bestValue : Int64} {c_bestBelow : Int64} {c_bestShare : (Nat → Int64)} {c_share : (Nat → Int64)} {c_matrix : (Nat → Int64)} {c_system : (Nat → Int64)} {c_shares : (Nat → Int32)} {c_allShares : Int32} {x1 : Int32} {x2 : Int32} {s1 : Int32} {s2 : Int32} {c_many : (Nat → Int32)} {c_gains : (Nat → Int32)} {c_isLeft : (Nat → Int32)} {c_wentTimes : Int32} {c_goes : (Nat → Int32)} {c_isLeftLaid : Int32} {z : Nat} {v : (Nat → Int32) × Int32 × (Nat → Int32) × Int32} {k64 : Int32 → (Nat → Int32) → (Nat → Int32) → (Nat → Int32) → Int32 → (Nat → Int32) → Int32 → Option ((Nat → Int32) × Int32 × (Nat → Int32) × Int32)} {k143 : Int32 → Int32 → (Nat → Int32) → (Nat → Int32) → (Nat → Int32) → Int32 → (Nat → Int32) → Int32 → Option ((Nat → Int32) × Int32 × (Nat → Int32) × Int32)} (hX : xIs (j10_laysLeft) X none none (hM c_thrown c_told c_read c_many c_eights c_gains c_notes c_seen c_turns c_drawn c_state c_tape c_taped c_size c_from c_next c_token c_value c_fault c_number c_fives v.1 v.2.1 v.2.2.1 v.2.2.2 c_game c_rows c_columns c_isFound c_bestValue c_bestBelow c_bestShare c_share c_matrix c_system c_shares c_allShares)) (hk64 : ∀ {x1 : Int32} {c_isLeft : (Nat → Int32)} {c_wentTimes : Int32} {c_goes : (Nat → Int32)} {c_isLeftLaid : Int32}, k64 x1 c_many c_gains c_isLeft c_wentTimes c_goes c_isLeftLaid = some v → xV (j10_laysLeft) X 0 0 (hM c_thrown c_told c_read c_many c_eights c_gains c_notes c_seen c_turns c_drawn c_state c_tape c_taped c_size c_from c_next c_token c_value c_fault c_number c_fives c_isLeft c_wentTimes c_goes c_isLeftLaid c_game c_rows c_columns c_isFound c_bestValue c_bestBelow c_bestShare c_share c_matrix c_system c_shares c_allShares) 64 [(0, .ref 0), (1, .int x1)] []) (hk143 : ∀ {x1 : Int32} {x2 : Int32} {c_isLeft : (Nat → Int32)} {c_wentTimes : Int32} {c_goes : (Nat → Int32)} {c_isLeftLaid : Int32}, k143 x1 x2 c_many c_gains c_isLeft c_wentTimes c_goes c_isLeftLaid = some v → xV (j10_laysLeft) X 0 0 (hM c_thrown c_told c_read c_many c_eights c_gains c_notes c_seen c_turns c_drawn c_state c_tape c_taped c_size c_from c_next c_token c_value c_fault c_number c_fives c_isLeft c_wentTimes c_goes c_isLeftLaid c_game c_rows c_columns c_isFound c_bestValue c_bestBelow c_bestShare c_share c_matrix c_system c_shares c_allShares) 143 [(0, .ref 0), (1, .int x1), (2, .int x2)] []) (hf : F10_laysLeft_b178 z x1 x2 s1 s2 c_many c_gains c_isLeft c_wentTimes c_goes c_isLeftLaid k64 k143 = some v) : xV (j10_laysLeft) X 0 0 (hM c_thrown c_told c_read c_many c_eights c_gains c_notes c_seen c_turns c_drawn c_state c_tape c_taped c_size c_from c_next c_token c_value c_fault c_number c_fives c_isLeft c_wentTimes c_goes c_isLeftLaid c_game c_rows c_columns c_isFound c_bestValue c_bestBelow c_bestShare c_share c_matrix c_system c_shares c_allShares) 178 [(0, .ref 0), (1, .int x1), (2, .int x2)] [.int s2, .int s1, .ref 12] := by
  unfold F10_laysLeft_b178 at hf
  obtain ⟨hg178, hf⟩ := xg_s hf
  refine xV_zastore (h' := (hM c_thrown c_told c_read c_many c_eights c_gains c_notes c_seen c_turns c_drawn c_state c_tape c_taped c_size c_from c_next c_token c_value c_fault c_number c_fives (upd c_isLeft (xn s1) (vp_nar .boolean s2)) c_wentTimes c_goes c_isLeftLaid c_game c_rows c_columns c_isFound c_bestValue c_bestBelow c_bestShare c_share c_matrix c_system c_shares c_allShares)) 179 rfl dX10_laysLeft_178 rfl (xin_ok hg178) rfl rfl ?_
  refine xV_iinc (L' := [(2, .int (x2 + (1 : Int32))), (0, .ref 0), (1, .int x1)]) 182 rfl dX10_laysLeft_179 2 rfl (xk_inc xk_i1) (xlt rfl) rfl ?_
  refine xV_goto (tgt := 143) dX10_laysLeft_182 (by decide) ?_
  refine xV_sub [1, 2, 0] rfl ?_
  exact hk143 hf
def F10_laysLeft_b143 (z : Nat) (w : Nat) (x1 : Int32) (x2 : Int32) (c_many : (Nat → Int32)) (c_gains : (Nat → Int32)) (c_isLeft : (Nat → Int32)) (c_wentTimes : Int32) (c_goes : (Nat → Int32)) (c_isLeftLaid : Int32) (k64 : Int32 → (Nat → Int32) → (Nat → Int32) → (Nat → Int32) → Int32 → (Nat → Int32) → Int32 → Option ((Nat → Int32) × Int32 × (Nat → Int32) × Int32)) : Option ((Nat → Int32) × Int32 × (Nat → Int32) × Int32) := match w with
  | 0 => none
  | w + 1 => if (256 : Int32) ≤ x2 then (F10_laysLeft_b185 z x1 c_many c_gains c_isLeft c_wentTimes c_goes c_isLeftLaid k64) else (xg (xin x2 256) (if (c_isLeft (xn x2)) = 0 then (F10_laysLeft_b178 z x1 x2 x2 (0 : Int32) c_many c_gains c_isLeft c_wentTimes c_goes c_isLeftLaid k64 (fun q0 q1 q2 q3 q4 q5 q6 q7 => F10_laysLeft_b143 z w q0 q1 q2 q3 q4 q5 q6 q7 k64)) else (xg (xin x2 256) (if (c_goes (xn x2)) = 0 then (F10_laysLeft_b178 z x1 x2 x2 (1 : Int32) c_many c_gains c_isLeft c_wentTimes c_goes c_isLeftLaid k64 (fun q0 q1 q2 q3 q4 q5 q6 q7 => F10_laysLeft_b143 z w q0 q1 q2 q3 q4 q5 q6 q7 k64)) else (F10_laysLeft_b178 z x1 x2 x2 (0 : Int32) c_many c_gains c_isLeft c_wentTimes c_goes c_isLeftLaid k64 (fun q0 q1 q2 q3 q4 q5 q6 q7 => F10_laysLeft_b143 z w q0 q1 q2 q3 q4 q5 q6 q7 k64))))))
theorem T10_laysLeft_b143 {X : xX} {c_thrown : Int32} {c_told : (Nat → Int32)} {c_read : (Nat → Int32)} {c_many : (Nat → Int32)} {c_eights : (Nat → Int32)} {c_gains : (Nat → Int32)} {c_notes : (Nat → Int32)} {c_seen : (Nat → Int32)} {c_turns : (Nat → Int32)} {c_drawn : (Nat → Int32)} {c_state : Int32} {c_tape : (Nat → Int32)} {c_taped : Int32} {c_size : Int32} {c_from : Int32} {c_next : Int32} {c_token : Int32} {c_value : Int32} {c_fault : Int32} {c_number : Int32} {c_fives : (Nat → Int32)} {c_game : (Nat → Int32)} {c_rows : Int32} {c_columns : Int32} {c_isFound : Int32} {c_bestValue : Int64} {c_bestBelow : Int64} {c_bestShare : (Nat → Int64)} {c_share : (Nat → Int64)} {c_matrix : (Nat → Int64)} {c_system : (Nat → Int64)} {c_shares : (Nat → Int32)} {c_allShares : Int32} {z : Nat} {v : (Nat → Int32) × Int32 × (Nat → Int32) × Int32} {k64 : Int32 → (Nat → Int32) → (Nat → Int32) → (Nat → Int32) → Int32 → (Nat → Int32) → Int32 → Option ((Nat → Int32) × Int32 × (Nat → Int32) × Int32)} (hX : xIs (j10_laysLeft) X none none (hM c_thrown c_told c_read c_many c_eights c_gains c_notes c_seen c_turns c_drawn c_state c_tape c_taped c_size c_from c_next c_token c_value c_fault c_number c_fives v.1 v.2.1 v.2.2.1 v.2.2.2 c_game c_rows c_columns c_isFound c_bestValue c_bestBelow c_bestShare c_share c_matrix c_system c_shares c_allShares)) (hk64 : ∀ {x1 : Int32} {c_isLeft : (Nat → Int32)} {c_wentTimes : Int32} {c_goes : (Nat → Int32)} {c_isLeftLaid : Int32}, k64 x1 c_many c_gains c_isLeft c_wentTimes c_goes c_isLeftLaid = some v → xV (j10_laysLeft) X 0 0 (hM c_thrown c_told c_read c_many c_eights c_gains c_notes c_seen c_turns c_drawn c_state c_tape c_taped c_size c_from c_next c_token c_value c_fault c_number c_fives c_isLeft c_wentTimes c_goes c_isLeftLaid c_game c_rows c_columns c_isFound c_bestValue c_bestBelow c_bestShare c_share c_matrix c_system c_shares c_allShares) 64 [(0, .ref 0), (1, .int x1)] []) : ∀ (w : Nat) {x1 : Int32} {x2 : Int32} {c_isLeft : (Nat → Int32)} {c_wentTimes : Int32} {c_goes : (Nat → Int32)} {c_isLeftLaid : Int32}, F10_laysLeft_b143 z w x1 x2 c_many c_gains c_isLeft c_wentTimes c_goes c_isLeftLaid k64 = some v → xV (j10_laysLeft) X 0 0 (hM c_thrown c_told c_read c_many c_eights c_gains c_notes c_seen c_turns c_drawn c_state c_tape c_taped c_size c_from c_next c_token c_value c_fault c_number c_fives c_isLeft c_wentTimes c_goes c_isLeftLaid c_game c_rows c_columns c_isFound c_bestValue c_bestBelow c_bestShare c_share c_matrix c_system c_shares c_allShares) 143 [(0, .ref 0), (1, .int x1), (2, .int x2)] [] := by
  intro w
  induction w with
  | zero => intro x1 x2 c_isLeft c_wentTimes c_goes c_isLeftLaid hf; cases hf
  | succ w ih =>
    intro x1 x2 c_isLeft c_wentTimes c_goes c_isLeftLaid hf
    unfold F10_laysLeft_b143 at hf
    refine xV_iload_n 144 rfl dX10_laysLeft_143 rfl 2 rfl ?_
    refine xV_sipush 147 rfl dX10_laysLeft_144 xk_s256 ?_
    refine xV_icmp_ge (tgt := 185) 150 rfl dX10_laysLeft_147 (by decide) (fun h147 => ?_) (fun h147 => ?_)
    · have hf := xif_t hf h147
      refine xV_sub [0, 1] rfl ?_
      exact T10_laysLeft_b185 hX hk64 hf
    · have hf := xif_f hf h147
      refine xV_aload_n 151 rfl dX10_laysLeft_150 rfl 0 rfl ?_
      refine xV_get (v := .ref 12) 154 rfl dX10_laysLeft_151 f10_53 rfl rfl ?_
      refine xV_iload_n 155 rfl dX10_laysLeft_154 rfl 2 rfl ?_
      refine xV_aload_n 156 rfl dX10_laysLeft_155 rfl 0 rfl ?_
      refine xV_get (v := .ref 12) 159 rfl dX10_laysLeft_156 f10_53 rfl rfl ?_
      refine xV_iload_n 160 rfl dX10_laysLeft_159 rfl 2 rfl ?_
      obtain ⟨hg160, hf⟩ := xg_s hf
      refine xV_zaload 161 rfl dX10_laysLeft_160 rfl (xin_ok hg160) rfl ?_
      refine xV_if_eq (tgt := 177) 164 rfl dX10_laysLeft_161 (by decide) (fun h161 => ?_) (fun h161 => ?_)
      · have hf := xif_t hf h161
        refine xV_iconst 178 rfl dX10_laysLeft_177 xk_i0 ?_
        exact T10_laysLeft_b178 hX hk64 (fun {_ _ _ _ _ _} hq => ih hq) hf
      · have hf := xif_f hf h161
        refine xV_aload_n 165 rfl dX10_laysLeft_164 rfl 0 rfl ?_
        refine xV_get (v := .ref 13) 168 rfl dX10_laysLeft_165 f10_57 rfl rfl ?_
        refine xV_iload_n 169 rfl dX10_laysLeft_168 rfl 2 rfl ?_
        obtain ⟨hg169, hf⟩ := xg_s hf
        refine xV_zaload 170 rfl dX10_laysLeft_169 rfl (xin_ok hg169) rfl ?_
        refine xV_if_ne (tgt := 177) 173 rfl dX10_laysLeft_170 (by decide) (fun h170 => ?_) (fun h170 => ?_)
        · have hf := xif_f hf h170
          refine xV_iconst 178 rfl dX10_laysLeft_177 xk_i0 ?_
          exact T10_laysLeft_b178 hX hk64 (fun {_ _ _ _ _ _} hq => ih hq) hf
        · have hf := xif_t hf h170
          refine xV_iconst 174 rfl dX10_laysLeft_173 xk_i1 ?_
          refine xV_goto (tgt := 178) dX10_laysLeft_174 (by decide) ?_
          exact T10_laysLeft_b178 hX hk64 (fun {_ _ _ _ _ _} hq => ih hq) hf
def F10_laysLeft_b141 (z : Nat) (x1 : Int32) (c_many : (Nat → Int32)) (c_gains : (Nat → Int32)) (c_isLeft : (Nat → Int32)) (c_wentTimes : Int32) (c_goes : (Nat → Int32)) (c_isLeftLaid : Int32) (k64 : Int32 → (Nat → Int32) → (Nat → Int32) → (Nat → Int32) → Int32 → (Nat → Int32) → Int32 → Option ((Nat → Int32) × Int32 × (Nat → Int32) × Int32)) : Option ((Nat → Int32) × Int32 × (Nat → Int32) × Int32) :=
  F10_laysLeft_b143 z z x1 (0 : Int32) c_many c_gains c_isLeft c_wentTimes c_goes c_isLeftLaid k64
theorem T10_laysLeft_b141 {X : xX} {c_thrown : Int32} {c_told : (Nat → Int32)} {c_read : (Nat → Int32)} {c_eights : (Nat → Int32)} {c_notes : (Nat → Int32)} {c_seen : (Nat → Int32)} {c_turns : (Nat → Int32)} {c_drawn : (Nat → Int32)} {c_state : Int32} {c_tape : (Nat → Int32)} {c_taped : Int32} {c_size : Int32} {c_from : Int32} {c_next : Int32} {c_token : Int32} {c_value : Int32} {c_fault : Int32} {c_number : Int32} {c_fives : (Nat → Int32)} {c_game : (Nat → Int32)} {c_rows : Int32} {c_columns : Int32} {c_isFound : Int32} {c_bestValue : Int64} {c_bestBelow : Int64} {c_bestShare : (Nat → Int64)} {c_share : (Nat → Int64)} {c_matrix : (Nat → Int64)} {c_system : (Nat → Int64)} {c_shares : (Nat → Int32)} {c_allShares : Int32} {x1 : Int32} {c_many : (Nat → Int32)} {c_gains : (Nat → Int32)} {c_isLeft : (Nat → Int32)} {c_wentTimes : Int32} {c_goes : (Nat → Int32)} {c_isLeftLaid : Int32} {z : Nat} {v : (Nat → Int32) × Int32 × (Nat → Int32) × Int32} {k64 : Int32 → (Nat → Int32) → (Nat → Int32) → (Nat → Int32) → Int32 → (Nat → Int32) → Int32 → Option ((Nat → Int32) × Int32 × (Nat → Int32) × Int32)} (hX : xIs (j10_laysLeft) X none none (hM c_thrown c_told c_read c_many c_eights c_gains c_notes c_seen c_turns c_drawn c_state c_tape c_taped c_size c_from c_next c_token c_value c_fault c_number c_fives v.1 v.2.1 v.2.2.1 v.2.2.2 c_game c_rows c_columns c_isFound c_bestValue c_bestBelow c_bestShare c_share c_matrix c_system c_shares c_allShares)) (hk64 : ∀ {x1 : Int32} {c_isLeft : (Nat → Int32)} {c_wentTimes : Int32} {c_goes : (Nat → Int32)} {c_isLeftLaid : Int32}, k64 x1 c_many c_gains c_isLeft c_wentTimes c_goes c_isLeftLaid = some v → xV (j10_laysLeft) X 0 0 (hM c_thrown c_told c_read c_many c_eights c_gains c_notes c_seen c_turns c_drawn c_state c_tape c_taped c_size c_from c_next c_token c_value c_fault c_number c_fives c_isLeft c_wentTimes c_goes c_isLeftLaid c_game c_rows c_columns c_isFound c_bestValue c_bestBelow c_bestShare c_share c_matrix c_system c_shares c_allShares) 64 [(0, .ref 0), (1, .int x1)] []) (hf : F10_laysLeft_b141 z x1 c_many c_gains c_isLeft c_wentTimes c_goes c_isLeftLaid k64 = some v) : xV (j10_laysLeft) X 0 0 (hM c_thrown c_told c_read c_many c_eights c_gains c_notes c_seen c_turns c_drawn c_state c_tape c_taped c_size c_from c_next c_token c_value c_fault c_number c_fives c_isLeft c_wentTimes c_goes c_isLeftLaid c_game c_rows c_columns c_isFound c_bestValue c_bestBelow c_bestShare c_share c_matrix c_system c_shares c_allShares) 141 [(0, .ref 0), (1, .int x1)] [] := by
  unfold F10_laysLeft_b141 at hf
  refine xV_iconst 142 rfl dX10_laysLeft_141 xk_i0 ?_
  refine xV_istore_n (L' := [(2, .int (0 : Int32)), (0, .ref 0), (1, .int x1)]) 143 rfl dX10_laysLeft_142 rfl (xlt rfl) rfl ?_
  refine xV_sub [1, 2, 0] rfl ?_
  exact T10_laysLeft_b143 hX hk64 _ hf
def F10_laysLeft_b134 (z : Nat) (x2 : Int32) (s0 : Int32) (c_many : (Nat → Int32)) (c_gains : (Nat → Int32)) (c_isLeft : (Nat → Int32)) (c_wentTimes : Int32) (c_goes : (Nat → Int32)) (c_isLeftLaid : Int32) (k64 : Int32 → (Nat → Int32) → (Nat → Int32) → (Nat → Int32) → Int32 → (Nat → Int32) → Int32 → Option ((Nat → Int32) × Int32 × (Nat → Int32) × Int32)) (k72 : Int32 → Int32 → (Nat → Int32) → (Nat → Int32) → (Nat → Int32) → Int32 → (Nat → Int32) → Int32 → Option ((Nat → Int32) × Int32 × (Nat → Int32) × Int32)) : Option ((Nat → Int32) × Int32 × (Nat → Int32) × Int32) :=
  k72 s0 (x2 + (1 : Int32)) c_many c_gains c_isLeft c_wentTimes c_goes c_isLeftLaid
theorem T10_laysLeft_b134 {X : xX} {c_thrown : Int32} {c_told : (Nat → Int32)} {c_read : (Nat → Int32)} {c_eights : (Nat → Int32)} {c_notes : (Nat → Int32)} {c_seen : (Nat → Int32)} {c_turns : (Nat → Int32)} {c_drawn : (Nat → Int32)} {c_state : Int32} {c_tape : (Nat → Int32)} {c_taped : Int32} {c_size : Int32} {c_from : Int32} {c_next : Int32} {c_token : Int32} {c_value : Int32} {c_fault : Int32} {c_number : Int32} {c_fives : (Nat → Int32)} {c_game : (Nat → Int32)} {c_rows : Int32} {c_columns : Int32} {c_isFound : Int32} {c_bestValue : Int64} {c_bestBelow : Int64} {c_bestShare : (Nat → Int64)} {c_share : (Nat → Int64)} {c_matrix : (Nat → Int64)} {c_system : (Nat → Int64)} {c_shares : (Nat → Int32)} {c_allShares : Int32} {x2 : Int32} {s0 : Int32} {c_many : (Nat → Int32)} {c_gains : (Nat → Int32)} {c_isLeft : (Nat → Int32)} {c_wentTimes : Int32} {c_goes : (Nat → Int32)} {c_isLeftLaid : Int32} {z : Nat} {v : (Nat → Int32) × Int32 × (Nat → Int32) × Int32} {k64 : Int32 → (Nat → Int32) → (Nat → Int32) → (Nat → Int32) → Int32 → (Nat → Int32) → Int32 → Option ((Nat → Int32) × Int32 × (Nat → Int32) × Int32)} {k72 : Int32 → Int32 → (Nat → Int32) → (Nat → Int32) → (Nat → Int32) → Int32 → (Nat → Int32) → Int32 → Option ((Nat → Int32) × Int32 × (Nat → Int32) × Int32)} (hX : xIs (j10_laysLeft) X none none (hM c_thrown c_told c_read c_many c_eights c_gains c_notes c_seen c_turns c_drawn c_state c_tape c_taped c_size c_from c_next c_token c_value c_fault c_number c_fives v.1 v.2.1 v.2.2.1 v.2.2.2 c_game c_rows c_columns c_isFound c_bestValue c_bestBelow c_bestShare c_share c_matrix c_system c_shares c_allShares)) (hk64 : ∀ {x1 : Int32} {c_isLeft : (Nat → Int32)} {c_wentTimes : Int32} {c_goes : (Nat → Int32)} {c_isLeftLaid : Int32}, k64 x1 c_many c_gains c_isLeft c_wentTimes c_goes c_isLeftLaid = some v → xV (j10_laysLeft) X 0 0 (hM c_thrown c_told c_read c_many c_eights c_gains c_notes c_seen c_turns c_drawn c_state c_tape c_taped c_size c_from c_next c_token c_value c_fault c_number c_fives c_isLeft c_wentTimes c_goes c_isLeftLaid c_game c_rows c_columns c_isFound c_bestValue c_bestBelow c_bestShare c_share c_matrix c_system c_shares c_allShares) 64 [(0, .ref 0), (1, .int x1)] []) (hk72 : ∀ {x1 : Int32} {x2 : Int32} {c_isLeft : (Nat → Int32)} {c_wentTimes : Int32} {c_goes : (Nat → Int32)} {c_isLeftLaid : Int32}, k72 x1 x2 c_many c_gains c_isLeft c_wentTimes c_goes c_isLeftLaid = some v → xV (j10_laysLeft) X 0 0 (hM c_thrown c_told c_read c_many c_eights c_gains c_notes c_seen c_turns c_drawn c_state c_tape c_taped c_size c_from c_next c_token c_value c_fault c_number c_fives c_isLeft c_wentTimes c_goes c_isLeftLaid c_game c_rows c_columns c_isFound c_bestValue c_bestBelow c_bestShare c_share c_matrix c_system c_shares c_allShares) 72 [(0, .ref 0), (1, .int x1), (2, .int x2)] []) (hf : F10_laysLeft_b134 z x2 s0 c_many c_gains c_isLeft c_wentTimes c_goes c_isLeftLaid k64 k72 = some v) : xV (j10_laysLeft) X 0 0 (hM c_thrown c_told c_read c_many c_eights c_gains c_notes c_seen c_turns c_drawn c_state c_tape c_taped c_size c_from c_next c_token c_value c_fault c_number c_fives c_isLeft c_wentTimes c_goes c_isLeftLaid c_game c_rows c_columns c_isFound c_bestValue c_bestBelow c_bestShare c_share c_matrix c_system c_shares c_allShares) 134 [(0, .ref 0), (2, .int x2)] [.int s0] := by
  unfold F10_laysLeft_b134 at hf
  refine xV_istore_n (L' := [(1, .int s0), (0, .ref 0), (2, .int x2)]) 135 rfl dX10_laysLeft_134 rfl (xlt rfl) rfl ?_
  refine xV_iinc (L' := [(2, .int (x2 + (1 : Int32))), (1, .int s0), (0, .ref 0)]) 138 rfl dX10_laysLeft_135 2 rfl (xk_inc xk_i1) (xlt rfl) rfl ?_
  refine xV_goto (tgt := 72) dX10_laysLeft_138 (by decide) ?_
  refine xV_sub [2, 1, 0] rfl ?_
  exact hk72 hf
def F10_laysLeft_b115 (z : Nat) (x1 : Int32) (x2 : Int32) (s1 : Int32) (s2 : Int32) (c_many : (Nat → Int32)) (c_gains : (Nat → Int32)) (c_isLeft : (Nat → Int32)) (c_wentTimes : Int32) (c_goes : (Nat → Int32)) (c_isLeftLaid : Int32) (k64 : Int32 → (Nat → Int32) → (Nat → Int32) → (Nat → Int32) → Int32 → (Nat → Int32) → Int32 → Option ((Nat → Int32) × Int32 × (Nat → Int32) × Int32)) (k72 : Int32 → Int32 → (Nat → Int32) → (Nat → Int32) → (Nat → Int32) → Int32 → (Nat → Int32) → Int32 → Option ((Nat → Int32) × Int32 × (Nat → Int32) × Int32)) : Option ((Nat → Int32) × Int32 × (Nat → Int32) × Int32) :=
  xg (xin s1 256) (if x1 = 0 then (xg (xin x2 256) (if ((upd c_goes (xn s1) (vp_nar .boolean s2)) (xn x2)) = 0 then (F10_laysLeft_b134 z x2 (0 : Int32) c_many c_gains c_isLeft c_wentTimes (upd c_goes (xn s1) (vp_nar .boolean s2)) c_isLeftLaid k64 k72) else (F10_laysLeft_b134 z x2 (1 : Int32) c_many c_gains c_isLeft c_wentTimes (upd c_goes (xn s1) (vp_nar .boolean s2)) c_isLeftLaid k64 k72))) else (F10_laysLeft_b134 z x2 (1 : Int32) c_many c_gains c_isLeft c_wentTimes (upd c_goes (xn s1) (vp_nar .boolean s2)) c_isLeftLaid k64 k72))
theorem T10_laysLeft_b115 {X : xX} {c_thrown : Int32} {c_told : (Nat → Int32)} {c_read : (Nat → Int32)} {c_eights : (Nat → Int32)} {c_notes : (Nat → Int32)} {c_seen : (Nat → Int32)} {c_turns : (Nat → Int32)} {c_drawn : (Nat → Int32)} {c_state : Int32} {c_tape : (Nat → Int32)} {c_taped : Int32} {c_size : Int32} {c_from : Int32} {c_next : Int32} {c_token : Int32} {c_value : Int32} {c_fault : Int32} {c_number : Int32} {c_fives : (Nat → Int32)} {c_game : (Nat → Int32)} {c_rows : Int32} {c_columns : Int32} {c_isFound : Int32} {c_bestValue : Int64} {c_bestBelow : Int64} {c_bestShare : (Nat → Int64)} {c_share : (Nat → Int64)} {c_matrix : (Nat → Int64)} {c_system : (Nat → Int64)} {c_shares : (Nat → Int32)} {c_allShares : Int32} {x1 : Int32} {x2 : Int32} {s1 : Int32} {s2 : Int32} {c_many : (Nat → Int32)} {c_gains : (Nat → Int32)} {c_isLeft : (Nat → Int32)} {c_wentTimes : Int32} {c_goes : (Nat → Int32)} {c_isLeftLaid : Int32} {z : Nat} {v : (Nat → Int32) × Int32 × (Nat → Int32) × Int32} {k64 : Int32 → (Nat → Int32) → (Nat → Int32) → (Nat → Int32) → Int32 → (Nat → Int32) → Int32 → Option ((Nat → Int32) × Int32 × (Nat → Int32) × Int32)} {k72 : Int32 → Int32 → (Nat → Int32) → (Nat → Int32) → (Nat → Int32) → Int32 → (Nat → Int32) → Int32 → Option ((Nat → Int32) × Int32 × (Nat → Int32) × Int32)} (hX : xIs (j10_laysLeft) X none none (hM c_thrown c_told c_read c_many c_eights c_gains c_notes c_seen c_turns c_drawn c_state c_tape c_taped c_size c_from c_next c_token c_value c_fault c_number c_fives v.1 v.2.1 v.2.2.1 v.2.2.2 c_game c_rows c_columns c_isFound c_bestValue c_bestBelow c_bestShare c_share c_matrix c_system c_shares c_allShares)) (hk64 : ∀ {x1 : Int32} {c_isLeft : (Nat → Int32)} {c_wentTimes : Int32} {c_goes : (Nat → Int32)} {c_isLeftLaid : Int32}, k64 x1 c_many c_gains c_isLeft c_wentTimes c_goes c_isLeftLaid = some v → xV (j10_laysLeft) X 0 0 (hM c_thrown c_told c_read c_many c_eights c_gains c_notes c_seen c_turns c_drawn c_state c_tape c_taped c_size c_from c_next c_token c_value c_fault c_number c_fives c_isLeft c_wentTimes c_goes c_isLeftLaid c_game c_rows c_columns c_isFound c_bestValue c_bestBelow c_bestShare c_share c_matrix c_system c_shares c_allShares) 64 [(0, .ref 0), (1, .int x1)] []) (hk72 : ∀ {x1 : Int32} {x2 : Int32} {c_isLeft : (Nat → Int32)} {c_wentTimes : Int32} {c_goes : (Nat → Int32)} {c_isLeftLaid : Int32}, k72 x1 x2 c_many c_gains c_isLeft c_wentTimes c_goes c_isLeftLaid = some v → xV (j10_laysLeft) X 0 0 (hM c_thrown c_told c_read c_many c_eights c_gains c_notes c_seen c_turns c_drawn c_state c_tape c_taped c_size c_from c_next c_token c_value c_fault c_number c_fives c_isLeft c_wentTimes c_goes c_isLeftLaid c_game c_rows c_columns c_isFound c_bestValue c_bestBelow c_bestShare c_share c_matrix c_system c_shares c_allShares) 72 [(0, .ref 0), (1, .int x1), (2, .int x2)] []) (hf : F10_laysLeft_b115 z x1 x2 s1 s2 c_many c_gains c_isLeft c_wentTimes c_goes c_isLeftLaid k64 k72 = some v) : xV (j10_laysLeft) X 0 0 (hM c_thrown c_told c_read c_many c_eights c_gains c_notes c_seen c_turns c_drawn c_state c_tape c_taped c_size c_from c_next c_token c_value c_fault c_number c_fives c_isLeft c_wentTimes c_goes c_isLeftLaid c_game c_rows c_columns c_isFound c_bestValue c_bestBelow c_bestShare c_share c_matrix c_system c_shares c_allShares) 115 [(0, .ref 0), (1, .int x1), (2, .int x2)] [.int s2, .int s1, .ref 13] := by
  unfold F10_laysLeft_b115 at hf
  obtain ⟨hg115, hf⟩ := xg_s hf
  refine xV_zastore (h' := (hM c_thrown c_told c_read c_many c_eights c_gains c_notes c_seen c_turns c_drawn c_state c_tape c_taped c_size c_from c_next c_token c_value c_fault c_number c_fives c_isLeft c_wentTimes (upd c_goes (xn s1) (vp_nar .boolean s2)) c_isLeftLaid c_game c_rows c_columns c_isFound c_bestValue c_bestBelow c_bestShare c_share c_matrix c_system c_shares c_allShares)) 116 rfl dX10_laysLeft_115 rfl (xin_ok hg115) rfl rfl ?_
  refine xV_iload_n 117 rfl dX10_laysLeft_116 rfl 1 rfl ?_
  refine xV_if_ne (tgt := 129) 120 rfl dX10_laysLeft_117 (by decide) (fun h117 => ?_) (fun h117 => ?_)
  · have hf := xif_f hf h117
    refine xV_iconst 130 rfl dX10_laysLeft_129 xk_i1 ?_
    refine xV_goto (tgt := 134) dX10_laysLeft_130 (by decide) ?_
    refine xV_sub [0, 2] rfl ?_
    exact T10_laysLeft_b134 hX hk64 hk72 hf
  · have hf := xif_t hf h117
    refine xV_aload_n 121 rfl dX10_laysLeft_120 rfl 0 rfl ?_
    refine xV_get (v := .ref 13) 124 rfl dX10_laysLeft_121 f10_57 rfl rfl ?_
    refine xV_iload_n 125 rfl dX10_laysLeft_124 rfl 2 rfl ?_
    obtain ⟨hg125, hf⟩ := xg_s hf
    refine xV_zaload 126 rfl dX10_laysLeft_125 rfl (xin_ok hg125) rfl ?_
    refine xV_if_eq (tgt := 133) 129 rfl dX10_laysLeft_126 (by decide) (fun h126 => ?_) (fun h126 => ?_)
    · have hf := xif_t hf h126
      refine xV_iconst 134 rfl dX10_laysLeft_133 xk_i0 ?_
      refine xV_sub [0, 2] rfl ?_
      exact T10_laysLeft_b134 hX hk64 hk72 hf
    · have hf := xif_f hf h126
      refine xV_iconst 130 rfl dX10_laysLeft_129 xk_i1 ?_
      refine xV_goto (tgt := 134) dX10_laysLeft_130 (by decide) ?_
      refine xV_sub [0, 2] rfl ?_
      exact T10_laysLeft_b134 hX hk64 hk72 hf
def F10_laysLeft_b72 (z : Nat) (w : Nat) (x1 : Int32) (x2 : Int32) (c_many : (Nat → Int32)) (c_gains : (Nat → Int32)) (c_isLeft : (Nat → Int32)) (c_wentTimes : Int32) (c_goes : (Nat → Int32)) (c_isLeftLaid : Int32) (k64 : Int32 → (Nat → Int32) → (Nat → Int32) → (Nat → Int32) → Int32 → (Nat → Int32) → Int32 → Option ((Nat → Int32) × Int32 × (Nat → Int32) × Int32)) : Option ((Nat → Int32) × Int32 × (Nat → Int32) × Int32) := match w with
  | 0 => none
  | w + 1 => if (256 : Int32) ≤ x2 then (F10_laysLeft_b141 z x1 c_many c_gains c_isLeft c_wentTimes c_goes c_isLeftLaid k64) else (xg (xin x2 256) (if (c_isLeft (xn x2)) = 0 then (F10_laysLeft_b115 z x1 x2 x2 (0 : Int32) c_many c_gains c_isLeft c_wentTimes c_goes c_isLeftLaid k64 (fun q0 q1 q2 q3 q4 q5 q6 q7 => F10_laysLeft_b72 z w q0 q1 q2 q3 q4 q5 q6 q7 k64)) else ((F10_isGoing z (x2 / (128 : Int32)) (x2 - x2 / (128 : Int32) * (128 : Int32)) c_many c_gains c_isLeft).bind (fun v104 => if v104 = 0 then (F10_laysLeft_b115 z x1 x2 x2 (0 : Int32) c_many c_gains c_isLeft c_wentTimes c_goes c_isLeftLaid k64 (fun q0 q1 q2 q3 q4 q5 q6 q7 => F10_laysLeft_b72 z w q0 q1 q2 q3 q4 q5 q6 q7 k64)) else (F10_laysLeft_b115 z x1 x2 x2 (1 : Int32) c_many c_gains c_isLeft c_wentTimes c_goes c_isLeftLaid k64 (fun q0 q1 q2 q3 q4 q5 q6 q7 => F10_laysLeft_b72 z w q0 q1 q2 q3 q4 q5 q6 q7 k64))))))
theorem T10_laysLeft_b72 {X : xX} {c_thrown : Int32} {c_told : (Nat → Int32)} {c_read : (Nat → Int32)} {c_many : (Nat → Int32)} {c_eights : (Nat → Int32)} {c_gains : (Nat → Int32)} {c_notes : (Nat → Int32)} {c_seen : (Nat → Int32)} {c_turns : (Nat → Int32)} {c_drawn : (Nat → Int32)} {c_state : Int32} {c_tape : (Nat → Int32)} {c_taped : Int32} {c_size : Int32} {c_from : Int32} {c_next : Int32} {c_token : Int32} {c_value : Int32} {c_fault : Int32} {c_number : Int32} {c_fives : (Nat → Int32)} {c_game : (Nat → Int32)} {c_rows : Int32} {c_columns : Int32} {c_isFound : Int32} {c_bestValue : Int64} {c_bestBelow : Int64} {c_bestShare : (Nat → Int64)} {c_share : (Nat → Int64)} {c_matrix : (Nat → Int64)} {c_system : (Nat → Int64)} {c_shares : (Nat → Int32)} {c_allShares : Int32} {z : Nat} {v : (Nat → Int32) × Int32 × (Nat → Int32) × Int32} {k64 : Int32 → (Nat → Int32) → (Nat → Int32) → (Nat → Int32) → Int32 → (Nat → Int32) → Int32 → Option ((Nat → Int32) × Int32 × (Nat → Int32) × Int32)} (hX : xIs (j10_laysLeft) X none none (hM c_thrown c_told c_read c_many c_eights c_gains c_notes c_seen c_turns c_drawn c_state c_tape c_taped c_size c_from c_next c_token c_value c_fault c_number c_fives v.1 v.2.1 v.2.2.1 v.2.2.2 c_game c_rows c_columns c_isFound c_bestValue c_bestBelow c_bestShare c_share c_matrix c_system c_shares c_allShares)) (hk64 : ∀ {x1 : Int32} {c_isLeft : (Nat → Int32)} {c_wentTimes : Int32} {c_goes : (Nat → Int32)} {c_isLeftLaid : Int32}, k64 x1 c_many c_gains c_isLeft c_wentTimes c_goes c_isLeftLaid = some v → xV (j10_laysLeft) X 0 0 (hM c_thrown c_told c_read c_many c_eights c_gains c_notes c_seen c_turns c_drawn c_state c_tape c_taped c_size c_from c_next c_token c_value c_fault c_number c_fives c_isLeft c_wentTimes c_goes c_isLeftLaid c_game c_rows c_columns c_isFound c_bestValue c_bestBelow c_bestShare c_share c_matrix c_system c_shares c_allShares) 64 [(0, .ref 0), (1, .int x1)] []) : ∀ (w : Nat) {x1 : Int32} {x2 : Int32} {c_isLeft : (Nat → Int32)} {c_wentTimes : Int32} {c_goes : (Nat → Int32)} {c_isLeftLaid : Int32}, F10_laysLeft_b72 z w x1 x2 c_many c_gains c_isLeft c_wentTimes c_goes c_isLeftLaid k64 = some v → xV (j10_laysLeft) X 0 0 (hM c_thrown c_told c_read c_many c_eights c_gains c_notes c_seen c_turns c_drawn c_state c_tape c_taped c_size c_from c_next c_token c_value c_fault c_number c_fives c_isLeft c_wentTimes c_goes c_isLeftLaid c_game c_rows c_columns c_isFound c_bestValue c_bestBelow c_bestShare c_share c_matrix c_system c_shares c_allShares) 72 [(0, .ref 0), (1, .int x1), (2, .int x2)] [] := by
  intro w
  induction w with
  | zero => intro x1 x2 c_isLeft c_wentTimes c_goes c_isLeftLaid hf; cases hf
  | succ w ih =>
    intro x1 x2 c_isLeft c_wentTimes c_goes c_isLeftLaid hf
    unfold F10_laysLeft_b72 at hf
    refine xV_iload_n 73 rfl dX10_laysLeft_72 rfl 2 rfl ?_
    refine xV_sipush 76 rfl dX10_laysLeft_73 xk_s256 ?_
    refine xV_icmp_ge (tgt := 141) 79 rfl dX10_laysLeft_76 (by decide) (fun h76 => ?_) (fun h76 => ?_)
    · have hf := xif_t hf h76
      refine xV_sub [0, 1] rfl ?_
      exact T10_laysLeft_b141 hX hk64 hf
    · have hf := xif_f hf h76
      refine xV_aload_n 80 rfl dX10_laysLeft_79 rfl 0 rfl ?_
      refine xV_get (v := .ref 13) 83 rfl dX10_laysLeft_80 f10_57 rfl rfl ?_
      refine xV_iload_n 84 rfl dX10_laysLeft_83 rfl 2 rfl ?_
      refine xV_aload_n 85 rfl dX10_laysLeft_84 rfl 0 rfl ?_
      refine xV_get (v := .ref 12) 88 rfl dX10_laysLeft_85 f10_53 rfl rfl ?_
      refine xV_iload_n 89 rfl dX10_laysLeft_88 rfl 2 rfl ?_
      obtain ⟨hg89, hf⟩ := xg_s hf
      refine xV_zaload 90 rfl dX10_laysLeft_89 rfl (xin_ok hg89) rfl ?_
      refine xV_if_eq (tgt := 114) 93 rfl dX10_laysLeft_90 (by decide) (fun h90 => ?_) (fun h90 => ?_)
      · have hf := xif_t hf h90
        refine xV_iconst 115 rfl dX10_laysLeft_114 xk_i0 ?_
        exact T10_laysLeft_b115 hX hk64 (fun {_ _ _ _ _ _} hq => ih hq) hf
      · have hf := xif_f hf h90
        refine xV_aload_n 94 rfl dX10_laysLeft_93 rfl 0 rfl ?_
        refine xV_iload_n 95 rfl dX10_laysLeft_94 rfl 2 rfl ?_
        refine xV_sipush 98 rfl dX10_laysLeft_95 xk_s128 ?_
        refine xV_idiv 99 rfl dX10_laysLeft_98 (by decide) ?_
        refine xV_iload_n 100 rfl dX10_laysLeft_99 rfl 2 rfl ?_
        refine xV_sipush 103 rfl dX10_laysLeft_100 xk_s128 ?_
        refine xV_irem 104 rfl dX10_laysLeft_103 (by decide) ?_
        obtain ⟨v104, hv104, hf⟩ := xb_s hf
        refine xV_same (rest := [.int x2, .ref 13]) 107 rfl dX10_laysLeft_104 rfl (C10_isGoing X.1.2.1 hv104) m10_isGoing v10_isGoing k10_243 rfl rfl rfl rfl rfl (Nat.le_of_ble_eq_true rfl) (Nat.le_of_ble_eq_true rfl) (Nat.le_of_ble_eq_true rfl) ⟨Nat.le_refl _, Nat.le_refl _⟩ ?_
        show xV (j10_laysLeft) X 0 0 (hM c_thrown c_told c_read c_many c_eights c_gains c_notes c_seen c_turns c_drawn c_state c_tape c_taped c_size c_from c_next c_token c_value c_fault c_number c_fives c_isLeft c_wentTimes c_goes c_isLeftLaid c_game c_rows c_columns c_isFound c_bestValue c_bestBelow c_bestShare c_share c_matrix c_system c_shares c_allShares) 107 [(0, .ref 0), (1, .int x1), (2, .int x2)] [.int v104, .int x2, .ref 13]
        refine xV_if_eq (tgt := 114) 110 rfl dX10_laysLeft_107 (by decide) (fun h107 => ?_) (fun h107 => ?_)
        · have hf := xif_t hf h107
          refine xV_iconst 115 rfl dX10_laysLeft_114 xk_i0 ?_
          exact T10_laysLeft_b115 hX hk64 (fun {_ _ _ _ _ _} hq => ih hq) hf
        · have hf := xif_f hf h107
          refine xV_iconst 111 rfl dX10_laysLeft_110 xk_i1 ?_
          refine xV_goto (tgt := 115) dX10_laysLeft_111 (by decide) ?_
          exact T10_laysLeft_b115 hX hk64 (fun {_ _ _ _ _ _} hq => ih hq) hf
def F10_laysLeft_b64 (z : Nat) (w : Nat) (x1 : Int32) (c_many : (Nat → Int32)) (c_gains : (Nat → Int32)) (c_isLeft : (Nat → Int32)) (c_wentTimes : Int32) (c_goes : (Nat → Int32)) (c_isLeftLaid : Int32) : Option ((Nat → Int32) × Int32 × (Nat → Int32) × Int32) := match w with
  | 0 => none
  | w + 1 => if x1 = 0 then (some (c_isLeft, c_wentTimes, c_goes, c_isLeftLaid)) else (F10_laysLeft_b72 z z (0 : Int32) (0 : Int32) c_many c_gains c_isLeft c_wentTimes c_goes c_isLeftLaid (fun q0 q1 q2 q3 q4 q5 q6 => F10_laysLeft_b64 z w q0 q1 q2 q3 q4 q5 q6))
theorem T10_laysLeft_b64 {X : xX} {c_thrown : Int32} {c_told : (Nat → Int32)} {c_read : (Nat → Int32)} {c_many : (Nat → Int32)} {c_eights : (Nat → Int32)} {c_gains : (Nat → Int32)} {c_notes : (Nat → Int32)} {c_seen : (Nat → Int32)} {c_turns : (Nat → Int32)} {c_drawn : (Nat → Int32)} {c_state : Int32} {c_tape : (Nat → Int32)} {c_taped : Int32} {c_size : Int32} {c_from : Int32} {c_next : Int32} {c_token : Int32} {c_value : Int32} {c_fault : Int32} {c_number : Int32} {c_fives : (Nat → Int32)} {c_game : (Nat → Int32)} {c_rows : Int32} {c_columns : Int32} {c_isFound : Int32} {c_bestValue : Int64} {c_bestBelow : Int64} {c_bestShare : (Nat → Int64)} {c_share : (Nat → Int64)} {c_matrix : (Nat → Int64)} {c_system : (Nat → Int64)} {c_shares : (Nat → Int32)} {c_allShares : Int32} {z : Nat} {v : (Nat → Int32) × Int32 × (Nat → Int32) × Int32} (hX : xIs (j10_laysLeft) X none none (hM c_thrown c_told c_read c_many c_eights c_gains c_notes c_seen c_turns c_drawn c_state c_tape c_taped c_size c_from c_next c_token c_value c_fault c_number c_fives v.1 v.2.1 v.2.2.1 v.2.2.2 c_game c_rows c_columns c_isFound c_bestValue c_bestBelow c_bestShare c_share c_matrix c_system c_shares c_allShares)) : ∀ (w : Nat) {x1 : Int32} {c_isLeft : (Nat → Int32)} {c_wentTimes : Int32} {c_goes : (Nat → Int32)} {c_isLeftLaid : Int32}, F10_laysLeft_b64 z w x1 c_many c_gains c_isLeft c_wentTimes c_goes c_isLeftLaid = some v → xV (j10_laysLeft) X 0 0 (hM c_thrown c_told c_read c_many c_eights c_gains c_notes c_seen c_turns c_drawn c_state c_tape c_taped c_size c_from c_next c_token c_value c_fault c_number c_fives c_isLeft c_wentTimes c_goes c_isLeftLaid c_game c_rows c_columns c_isFound c_bestValue c_bestBelow c_bestShare c_share c_matrix c_system c_shares c_allShares) 64 [(0, .ref 0), (1, .int x1)] [] := by
  intro w
  induction w with
  | zero => intro x1 c_isLeft c_wentTimes c_goes c_isLeftLaid hf; cases hf
  | succ w ih =>
    intro x1 c_isLeft c_wentTimes c_goes c_isLeftLaid hf
    unfold F10_laysLeft_b64 at hf
    refine xV_iload_n 65 rfl dX10_laysLeft_64 rfl 1 rfl ?_
    refine xV_if_eq (tgt := 206) 68 rfl dX10_laysLeft_65 (by decide) (fun h65 => ?_) (fun h65 => ?_)
    · have hf := xif_t hf h65
      obtain rfl := Option.some.inj hf
      exact xV_vret hX dX10_laysLeft_206 (Nat.zero_le _) (Nat.zero_le _)
    · have hf := xif_f hf h65
      refine xV_iconst 69 rfl dX10_laysLeft_68 xk_i0 ?_
      refine xV_istore_n (L' := [(1, .int (0 : Int32)), (0, .ref 0)]) 70 rfl dX10_laysLeft_69 rfl (xlt rfl) rfl ?_
      refine xV_iconst 71 rfl dX10_laysLeft_70 xk_i0 ?_
      refine xV_istore_n (L' := [(2, .int (0 : Int32)), (1, .int (0 : Int32)), (0, .ref 0)]) 72 rfl dX10_laysLeft_71 rfl (xlt rfl) rfl ?_
      refine xV_sub [2, 1, 0] rfl ?_
      exact T10_laysLeft_b72 hX (fun {_ _ _ _ _} hq => ih hq) _ hf
def F10_laysLeft_b57 (z : Nat) (c_many : (Nat → Int32)) (c_gains : (Nat → Int32)) (c_isLeft : (Nat → Int32)) (c_wentTimes : Int32) (c_goes : (Nat → Int32)) (c_isLeftLaid : Int32) : Option ((Nat → Int32) × Int32 × (Nat → Int32) × Int32) :=
  F10_laysLeft_b64 z z (1 : Int32) c_many c_gains c_isLeft (0 : Int32) c_goes c_isLeftLaid
theorem T10_laysLeft_b57 {X : xX} {c_thrown : Int32} {c_told : (Nat → Int32)} {c_read : (Nat → Int32)} {c_eights : (Nat → Int32)} {c_notes : (Nat → Int32)} {c_seen : (Nat → Int32)} {c_turns : (Nat → Int32)} {c_drawn : (Nat → Int32)} {c_state : Int32} {c_tape : (Nat → Int32)} {c_taped : Int32} {c_size : Int32} {c_from : Int32} {c_next : Int32} {c_token : Int32} {c_value : Int32} {c_fault : Int32} {c_number : Int32} {c_fives : (Nat → Int32)} {c_game : (Nat → Int32)} {c_rows : Int32} {c_columns : Int32} {c_isFound : Int32} {c_bestValue : Int64} {c_bestBelow : Int64} {c_bestShare : (Nat → Int64)} {c_share : (Nat → Int64)} {c_matrix : (Nat → Int64)} {c_system : (Nat → Int64)} {c_shares : (Nat → Int32)} {c_allShares : Int32} {c_many : (Nat → Int32)} {c_gains : (Nat → Int32)} {c_isLeft : (Nat → Int32)} {c_wentTimes : Int32} {c_goes : (Nat → Int32)} {c_isLeftLaid : Int32} {z : Nat} {v : (Nat → Int32) × Int32 × (Nat → Int32) × Int32} (hX : xIs (j10_laysLeft) X none none (hM c_thrown c_told c_read c_many c_eights c_gains c_notes c_seen c_turns c_drawn c_state c_tape c_taped c_size c_from c_next c_token c_value c_fault c_number c_fives v.1 v.2.1 v.2.2.1 v.2.2.2 c_game c_rows c_columns c_isFound c_bestValue c_bestBelow c_bestShare c_share c_matrix c_system c_shares c_allShares)) (hf : F10_laysLeft_b57 z c_many c_gains c_isLeft c_wentTimes c_goes c_isLeftLaid = some v) : xV (j10_laysLeft) X 0 0 (hM c_thrown c_told c_read c_many c_eights c_gains c_notes c_seen c_turns c_drawn c_state c_tape c_taped c_size c_from c_next c_token c_value c_fault c_number c_fives c_isLeft c_wentTimes c_goes c_isLeftLaid c_game c_rows c_columns c_isFound c_bestValue c_bestBelow c_bestShare c_share c_matrix c_system c_shares c_allShares) 57 [(0, .ref 0)] [] := by
  unfold F10_laysLeft_b57 at hf
  refine xV_aload_n 58 rfl dX10_laysLeft_57 rfl 0 rfl ?_
  refine xV_iconst 59 rfl dX10_laysLeft_58 xk_i0 ?_
  refine xV_put (h' := (hM c_thrown c_told c_read c_many c_eights c_gains c_notes c_seen c_turns c_drawn c_state c_tape c_taped c_size c_from c_next c_token c_value c_fault c_number c_fives c_isLeft (0 : Int32) c_goes c_isLeftLaid c_game c_rows c_columns c_isFound c_bestValue c_bestBelow c_bestShare c_share c_matrix c_system c_shares c_allShares)) 62 rfl dX10_laysLeft_59 f10_240 rfl nf10_22 (fun _ => rfl) (fun _ => rfl) (Nat.le_of_ble_eq_true rfl) rfl ?_
  refine xV_iconst 63 rfl dX10_laysLeft_62 xk_i1 ?_
  refine xV_istore_n (L' := [(1, .int (1 : Int32)), (0, .ref 0)]) 64 rfl dX10_laysLeft_63 rfl (xlt rfl) rfl ?_
  refine xV_sub [1, 0] rfl ?_
  exact T10_laysLeft_b64 hX _ hf
def F10_laysLeft_b50 (z : Nat) (x1 : Int32) (s1 : Int32) (s2 : Int32) (c_many : (Nat → Int32)) (c_gains : (Nat → Int32)) (c_isLeft : (Nat → Int32)) (c_wentTimes : Int32) (c_goes : (Nat → Int32)) (c_isLeftLaid : Int32) (k15 : Int32 → (Nat → Int32) → (Nat → Int32) → (Nat → Int32) → Int32 → (Nat → Int32) → Int32 → Option ((Nat → Int32) × Int32 × (Nat → Int32) × Int32)) : Option ((Nat → Int32) × Int32 × (Nat → Int32) × Int32) :=
  xg (xin s1 256) (k15 (x1 + (1 : Int32)) c_many c_gains (upd c_isLeft (xn s1) (vp_nar .boolean s2)) c_wentTimes c_goes c_isLeftLaid)
theorem T10_laysLeft_b50 {X : xX} {c_thrown : Int32} {c_told : (Nat → Int32)} {c_read : (Nat → Int32)} {c_eights : (Nat → Int32)} {c_notes : (Nat → Int32)} {c_seen : (Nat → Int32)} {c_turns : (Nat → Int32)} {c_drawn : (Nat → Int32)} {c_state : Int32} {c_tape : (Nat → Int32)} {c_taped : Int32} {c_size : Int32} {c_from : Int32} {c_next : Int32} {c_token : Int32} {c_value : Int32} {c_fault : Int32} {c_number : Int32} {c_fives : (Nat → Int32)} {c_game : (Nat → Int32)} {c_rows : Int32} {c_columns : Int32} {c_isFound : Int32} {c_bestValue : Int64} {c_bestBelow : Int64} {c_bestShare : (Nat → Int64)} {c_share : (Nat → Int64)} {c_matrix : (Nat → Int64)} {c_system : (Nat → Int64)} {c_shares : (Nat → Int32)} {c_allShares : Int32} {x1 : Int32} {s1 : Int32} {s2 : Int32} {c_many : (Nat → Int32)} {c_gains : (Nat → Int32)} {c_isLeft : (Nat → Int32)} {c_wentTimes : Int32} {c_goes : (Nat → Int32)} {c_isLeftLaid : Int32} {z : Nat} {v : (Nat → Int32) × Int32 × (Nat → Int32) × Int32} {k15 : Int32 → (Nat → Int32) → (Nat → Int32) → (Nat → Int32) → Int32 → (Nat → Int32) → Int32 → Option ((Nat → Int32) × Int32 × (Nat → Int32) × Int32)} (hX : xIs (j10_laysLeft) X none none (hM c_thrown c_told c_read c_many c_eights c_gains c_notes c_seen c_turns c_drawn c_state c_tape c_taped c_size c_from c_next c_token c_value c_fault c_number c_fives v.1 v.2.1 v.2.2.1 v.2.2.2 c_game c_rows c_columns c_isFound c_bestValue c_bestBelow c_bestShare c_share c_matrix c_system c_shares c_allShares)) (hk15 : ∀ {x1 : Int32} {c_isLeft : (Nat → Int32)} {c_wentTimes : Int32} {c_goes : (Nat → Int32)} {c_isLeftLaid : Int32}, k15 x1 c_many c_gains c_isLeft c_wentTimes c_goes c_isLeftLaid = some v → xV (j10_laysLeft) X 0 0 (hM c_thrown c_told c_read c_many c_eights c_gains c_notes c_seen c_turns c_drawn c_state c_tape c_taped c_size c_from c_next c_token c_value c_fault c_number c_fives c_isLeft c_wentTimes c_goes c_isLeftLaid c_game c_rows c_columns c_isFound c_bestValue c_bestBelow c_bestShare c_share c_matrix c_system c_shares c_allShares) 15 [(0, .ref 0), (1, .int x1)] []) (hf : F10_laysLeft_b50 z x1 s1 s2 c_many c_gains c_isLeft c_wentTimes c_goes c_isLeftLaid k15 = some v) : xV (j10_laysLeft) X 0 0 (hM c_thrown c_told c_read c_many c_eights c_gains c_notes c_seen c_turns c_drawn c_state c_tape c_taped c_size c_from c_next c_token c_value c_fault c_number c_fives c_isLeft c_wentTimes c_goes c_isLeftLaid c_game c_rows c_columns c_isFound c_bestValue c_bestBelow c_bestShare c_share c_matrix c_system c_shares c_allShares) 50 [(0, .ref 0), (1, .int x1)] [.int s2, .int s1, .ref 12] := by
  unfold F10_laysLeft_b50 at hf
  obtain ⟨hg50, hf⟩ := xg_s hf
  refine xV_zastore (h' := (hM c_thrown c_told c_read c_many c_eights c_gains c_notes c_seen c_turns c_drawn c_state c_tape c_taped c_size c_from c_next c_token c_value c_fault c_number c_fives (upd c_isLeft (xn s1) (vp_nar .boolean s2)) c_wentTimes c_goes c_isLeftLaid c_game c_rows c_columns c_isFound c_bestValue c_bestBelow c_bestShare c_share c_matrix c_system c_shares c_allShares)) 51 rfl dX10_laysLeft_50 rfl (xin_ok hg50) rfl rfl ?_
  refine xV_iinc (L' := [(1, .int (x1 + (1 : Int32))), (0, .ref 0)]) 54 rfl dX10_laysLeft_51 1 rfl (xk_inc xk_i1) (xlt rfl) rfl ?_
  refine xV_goto (tgt := 15) dX10_laysLeft_54 (by decide) ?_
  refine xV_sub [1, 0] rfl ?_
  exact hk15 hf
def F10_laysLeft_b15 (z : Nat) (w : Nat) (x1 : Int32) (c_many : (Nat → Int32)) (c_gains : (Nat → Int32)) (c_isLeft : (Nat → Int32)) (c_wentTimes : Int32) (c_goes : (Nat → Int32)) (c_isLeftLaid : Int32) : Option ((Nat → Int32) × Int32 × (Nat → Int32) × Int32) := match w with
  | 0 => none
  | w + 1 => if (256 : Int32) ≤ x1 then (F10_laysLeft_b57 z c_many c_gains c_isLeft c_wentTimes c_goes c_isLeftLaid) else (xg (xin (x1 / (128 : Int32)) 2) (if (c_many (xn (x1 / (128 : Int32)))) ≤ (x1 - x1 / (128 : Int32) * (128 : Int32)) then (F10_laysLeft_b50 z x1 x1 (0 : Int32) c_many c_gains c_isLeft c_wentTimes c_goes c_isLeftLaid (fun q0 q1 q2 q3 q4 q5 q6 => F10_laysLeft_b15 z w q0 q1 q2 q3 q4 q5 q6)) else (F10_laysLeft_b50 z x1 x1 (1 : Int32) c_many c_gains c_isLeft c_wentTimes c_goes c_isLeftLaid (fun q0 q1 q2 q3 q4 q5 q6 => F10_laysLeft_b15 z w q0 q1 q2 q3 q4 q5 q6))))
theorem T10_laysLeft_b15 {X : xX} {c_thrown : Int32} {c_told : (Nat → Int32)} {c_read : (Nat → Int32)} {c_many : (Nat → Int32)} {c_eights : (Nat → Int32)} {c_gains : (Nat → Int32)} {c_notes : (Nat → Int32)} {c_seen : (Nat → Int32)} {c_turns : (Nat → Int32)} {c_drawn : (Nat → Int32)} {c_state : Int32} {c_tape : (Nat → Int32)} {c_taped : Int32} {c_size : Int32} {c_from : Int32} {c_next : Int32} {c_token : Int32} {c_value : Int32} {c_fault : Int32} {c_number : Int32} {c_fives : (Nat → Int32)} {c_game : (Nat → Int32)} {c_rows : Int32} {c_columns : Int32} {c_isFound : Int32} {c_bestValue : Int64} {c_bestBelow : Int64} {c_bestShare : (Nat → Int64)} {c_share : (Nat → Int64)} {c_matrix : (Nat → Int64)} {c_system : (Nat → Int64)} {c_shares : (Nat → Int32)} {c_allShares : Int32} {z : Nat} {v : (Nat → Int32) × Int32 × (Nat → Int32) × Int32} (hX : xIs (j10_laysLeft) X none none (hM c_thrown c_told c_read c_many c_eights c_gains c_notes c_seen c_turns c_drawn c_state c_tape c_taped c_size c_from c_next c_token c_value c_fault c_number c_fives v.1 v.2.1 v.2.2.1 v.2.2.2 c_game c_rows c_columns c_isFound c_bestValue c_bestBelow c_bestShare c_share c_matrix c_system c_shares c_allShares)) : ∀ (w : Nat) {x1 : Int32} {c_isLeft : (Nat → Int32)} {c_wentTimes : Int32} {c_goes : (Nat → Int32)} {c_isLeftLaid : Int32}, F10_laysLeft_b15 z w x1 c_many c_gains c_isLeft c_wentTimes c_goes c_isLeftLaid = some v → xV (j10_laysLeft) X 0 0 (hM c_thrown c_told c_read c_many c_eights c_gains c_notes c_seen c_turns c_drawn c_state c_tape c_taped c_size c_from c_next c_token c_value c_fault c_number c_fives c_isLeft c_wentTimes c_goes c_isLeftLaid c_game c_rows c_columns c_isFound c_bestValue c_bestBelow c_bestShare c_share c_matrix c_system c_shares c_allShares) 15 [(0, .ref 0), (1, .int x1)] [] := by
  intro w
  induction w with
  | zero => intro x1 c_isLeft c_wentTimes c_goes c_isLeftLaid hf; cases hf
  | succ w ih =>
    intro x1 c_isLeft c_wentTimes c_goes c_isLeftLaid hf
    unfold F10_laysLeft_b15 at hf
    refine xV_iload_n 16 rfl dX10_laysLeft_15 rfl 1 rfl ?_
    refine xV_sipush 19 rfl dX10_laysLeft_16 xk_s256 ?_
    refine xV_icmp_ge (tgt := 57) 22 rfl dX10_laysLeft_19 (by decide) (fun h19 => ?_) (fun h19 => ?_)
    · have hf := xif_t hf h19
      refine xV_sub [0] rfl ?_
      exact T10_laysLeft_b57 hX hf
    · have hf := xif_f hf h19
      refine xV_aload_n 23 rfl dX10_laysLeft_22 rfl 0 rfl ?_
      refine xV_get (v := .ref 12) 26 rfl dX10_laysLeft_23 f10_53 rfl rfl ?_
      refine xV_iload_n 27 rfl dX10_laysLeft_26 rfl 1 rfl ?_
      refine xV_iload_n 28 rfl dX10_laysLeft_27 rfl 1 rfl ?_
      refine xV_sipush 31 rfl dX10_laysLeft_28 xk_s128 ?_
      refine xV_irem 32 rfl dX10_laysLeft_31 (by decide) ?_
      refine xV_aload_n 33 rfl dX10_laysLeft_32 rfl 0 rfl ?_
      refine xV_get (v := .ref 3) 36 rfl dX10_laysLeft_33 f10_24 rfl rfl ?_
      refine xV_iload_n 37 rfl dX10_laysLeft_36 rfl 1 rfl ?_
      refine xV_sipush 40 rfl dX10_laysLeft_37 xk_s128 ?_
      refine xV_idiv 41 rfl dX10_laysLeft_40 (by decide) ?_
      obtain ⟨hg41, hf⟩ := xg_s hf
      refine xV_iaload 42 rfl dX10_laysLeft_41 rfl (xin_ok hg41) rfl ?_
      refine xV_icmp_ge (tgt := 49) 45 rfl dX10_laysLeft_42 (by decide) (fun h42 => ?_) (fun h42 => ?_)
      · have hf := xif_t hf h42
        refine xV_iconst 50 rfl dX10_laysLeft_49 xk_i0 ?_
        exact T10_laysLeft_b50 hX (fun {_ _ _ _ _} hq => ih hq) hf
      · have hf := xif_f hf h42
        refine xV_iconst 46 rfl dX10_laysLeft_45 xk_i1 ?_
        refine xV_goto (tgt := 50) dX10_laysLeft_46 (by decide) ?_
        exact T10_laysLeft_b50 hX (fun {_ _ _ _ _} hq => ih hq) hf
def F10_laysLeft (z : Nat) (c_many : (Nat → Int32)) (c_gains : (Nat → Int32)) (c_isLeft : (Nat → Int32)) (c_wentTimes : Int32) (c_goes : (Nat → Int32)) (c_isLeftLaid : Int32) : Option ((Nat → Int32) × Int32 × (Nat → Int32) × Int32) :=
  if c_isLeftLaid = 0 then (F10_laysLeft_b15 z z (0 : Int32) c_many c_gains c_isLeft c_wentTimes c_goes (1 : Int32)) else (some (c_isLeft, c_wentTimes, c_goes, c_isLeftLaid))
theorem T10_laysLeft {X : xX} {z : Nat} {c_many : (Nat → Int32)} {c_gains : (Nat → Int32)} {c_isLeft : (Nat → Int32)} {c_wentTimes : Int32} {c_goes : (Nat → Int32)} {c_isLeftLaid : Int32} {c_thrown : Int32} {c_told : (Nat → Int32)} {c_read : (Nat → Int32)} {c_eights : (Nat → Int32)} {c_notes : (Nat → Int32)} {c_seen : (Nat → Int32)} {c_turns : (Nat → Int32)} {c_drawn : (Nat → Int32)} {c_state : Int32} {c_tape : (Nat → Int32)} {c_taped : Int32} {c_size : Int32} {c_from : Int32} {c_next : Int32} {c_token : Int32} {c_value : Int32} {c_fault : Int32} {c_number : Int32} {c_fives : (Nat → Int32)} {c_game : (Nat → Int32)} {c_rows : Int32} {c_columns : Int32} {c_isFound : Int32} {c_bestValue : Int64} {c_bestBelow : Int64} {c_bestShare : (Nat → Int64)} {c_share : (Nat → Int64)} {c_matrix : (Nat → Int64)} {c_system : (Nat → Int64)} {c_shares : (Nat → Int32)} {c_allShares : Int32} {v : (Nat → Int32) × Int32 × (Nat → Int32) × Int32} (hX : xIs (j10_laysLeft) X none none (hM c_thrown c_told c_read c_many c_eights c_gains c_notes c_seen c_turns c_drawn c_state c_tape c_taped c_size c_from c_next c_token c_value c_fault c_number c_fives v.1 v.2.1 v.2.2.1 v.2.2.2 c_game c_rows c_columns c_isFound c_bestValue c_bestBelow c_bestShare c_share c_matrix c_system c_shares c_allShares)) (hf : F10_laysLeft z c_many c_gains c_isLeft c_wentTimes c_goes c_isLeftLaid = some v) : xV (j10_laysLeft) X 0 0 (hM c_thrown c_told c_read c_many c_eights c_gains c_notes c_seen c_turns c_drawn c_state c_tape c_taped c_size c_from c_next c_token c_value c_fault c_number c_fives c_isLeft c_wentTimes c_goes c_isLeftLaid c_game c_rows c_columns c_isFound c_bestValue c_bestBelow c_bestShare c_share c_matrix c_system c_shares c_allShares) 0 [(0, .ref 0)] [] := by
  unfold F10_laysLeft at hf
  refine xV_aload_n 1 rfl dX10_laysLeft_0 rfl 0 rfl ?_
  refine xV_get (v := .int c_isLeftLaid) 4 rfl dX10_laysLeft_1 f10_98 rfl rfl ?_
  refine xV_if_eq (tgt := 8) 7 rfl dX10_laysLeft_4 (by decide) (fun h4 => ?_) (fun h4 => ?_)
  · have hf := xif_t hf h4
    refine xV_aload_n 9 rfl dX10_laysLeft_8 rfl 0 rfl ?_
    refine xV_iconst 10 rfl dX10_laysLeft_9 xk_i1 ?_
    refine xV_put (h' := (hM c_thrown c_told c_read c_many c_eights c_gains c_notes c_seen c_turns c_drawn c_state c_tape c_taped c_size c_from c_next c_token c_value c_fault c_number c_fives c_isLeft c_wentTimes c_goes (1 : Int32) c_game c_rows c_columns c_isFound c_bestValue c_bestBelow c_bestShare c_share c_matrix c_system c_shares c_allShares)) 13 rfl dX10_laysLeft_10 f10_98 rfl nf10_24 (fun _ => rfl) (fun _ => rfl) (Nat.le_of_ble_eq_true rfl) rfl ?_
    refine xV_iconst 14 rfl dX10_laysLeft_13 xk_i0 ?_
    refine xV_istore_n (L' := [(1, .int (0 : Int32)), (0, .ref 0)]) 15 rfl dX10_laysLeft_14 rfl (xlt rfl) rfl ?_
    refine xV_sub [1, 0] rfl ?_
    exact T10_laysLeft_b15 hX _ hf
  · have hf := xif_f hf h4
    obtain rfl := Option.some.inj hf
    exact xV_vret hX dX10_laysLeft_7 (Nat.zero_le _) (Nat.zero_le _)
theorem C10_laysLeft (l : Launch) {z : Nat} {c_many : (Nat → Int32)} {c_gains : (Nat → Int32)} {c_isLeft : (Nat → Int32)} {c_wentTimes : Int32} {c_goes : (Nat → Int32)} {c_isLeftLaid : Int32} {c_thrown : Int32} {c_told : (Nat → Int32)} {c_read : (Nat → Int32)} {c_eights : (Nat → Int32)} {c_notes : (Nat → Int32)} {c_seen : (Nat → Int32)} {c_turns : (Nat → Int32)} {c_drawn : (Nat → Int32)} {c_state : Int32} {c_tape : (Nat → Int32)} {c_taped : Int32} {c_size : Int32} {c_from : Int32} {c_next : Int32} {c_token : Int32} {c_value : Int32} {c_fault : Int32} {c_number : Int32} {c_fives : (Nat → Int32)} {c_game : (Nat → Int32)} {c_rows : Int32} {c_columns : Int32} {c_isFound : Int32} {c_bestValue : Int64} {c_bestBelow : Int64} {c_bestShare : (Nat → Int64)} {c_share : (Nat → Int64)} {c_matrix : (Nat → Int64)} {c_system : (Nat → Int64)} {c_shares : (Nat → Int32)} {c_allShares : Int32} {v : (Nat → Int32) × Int32 × (Nat → Int32) × Int32} (hf : F10_laysLeft z c_many c_gains c_isLeft c_wentTimes c_goes c_isLeftLaid = some v) : xCt l yX10_laysLeft none j10_laysLeft [.ref 0] (hM c_thrown c_told c_read c_many c_eights c_gains c_notes c_seen c_turns c_drawn c_state c_tape c_taped c_size c_from c_next c_token c_value c_fault c_number c_fives c_isLeft c_wentTimes c_goes c_isLeftLaid c_game c_rows c_columns c_isFound c_bestValue c_bestBelow c_bestShare c_share c_matrix c_system c_shares c_allShares) none (hM c_thrown c_told c_read c_many c_eights c_gains c_notes c_seen c_turns c_drawn c_state c_tape c_taped c_size c_from c_next c_token c_value c_fault c_number c_fives v.1 v.2.1 v.2.2.1 v.2.2.2 c_game c_rows c_columns c_isFound c_bestValue c_bestBelow c_bestShare c_share c_matrix c_system c_shares c_allShares) := xCt_of (by decide) rfl (Nat.le_of_ble_eq_true rfl) (fun _ hX => T10_laysLeft hX hf)
theorem m10_laysLeft : xMd yX10_laysLeft RX10 none j10_laysLeft 0 := ⟨List.mem_of_getElem? (i := 757) (by decide +kernel), List.mem_of_getElem? (i := 5) (by decide +kernel), rfl, by decide +kernel⟩
theorem v10_laysLeft : xMv yX10_laysLeft RX10 := ⟨List.mem_of_getElem? (i := 755) (by decide +kernel), List.mem_of_getElem? (i := 756) (by decide +kernel)⟩
theorem k10_246 : Cond.methodLink RX10 246 yX10_laysLeft ∈ wsL_law0 := List.mem_of_getElem? (i := 754) (by decide +kernel)
theorem dX10_left_0 : decode cX10_left 0 = .ok (.aload_n 0, 1) := by decide +kernel
theorem dX10_left_1 : decode cX10_left 1 = .ok (.iconst 0, 1) := by decide +kernel
theorem dX10_left_2 : decode cX10_left 2 = .ok (.putfield 1, 3) := by decide +kernel
theorem dX10_left_5 : decode cX10_left 5 = .ok (.iload_n 1, 1) := by decide +kernel
theorem dX10_left_6 : decode cX10_left 6 = .ok (.invokestatic 105, 3) := by decide +kernel
theorem dX10_left_9 : decode cX10_left 9 = .ok (.ifCond .eq 8, 3) := by decide +kernel
theorem dX10_left_12 : decode cX10_left 12 = .ok (.iload_n 2, 1) := by decide +kernel
theorem dX10_left_13 : decode cX10_left 13 = .ok (.iconst (-1), 1) := by decide +kernel
theorem dX10_left_14 : decode cX10_left 14 = .ok (.if_icmp .ge 5, 3) := by decide +kernel
theorem dX10_left_17 : decode cX10_left 17 = .ok (.iconst (-1), 1) := by decide +kernel
theorem dX10_left_18 : decode cX10_left 18 = .ok (.ireturn, 1) := by decide +kernel
theorem dX10_left_19 : decode cX10_left 19 = .ok (.aload_n 0, 1) := by decide +kernel
theorem dX10_left_20 : decode cX10_left 20 = .ok (.invokevirtual 246, 3) := by decide +kernel
theorem dX10_left_23 : decode cX10_left 23 = .ok (.iconst 0, 1) := by decide +kernel
theorem dX10_left_24 : decode cX10_left 24 = .ok (.istore_n 3, 1) := by decide +kernel
theorem dX10_left_25 : decode cX10_left 25 = .ok (.iconst 0, 1) := by decide +kernel
theorem dX10_left_26 : decode cX10_left 26 = .ok (.istore 4, 2) := by decide +kernel
theorem dX10_left_28 : decode cX10_left 28 = .ok (.iload 4, 2) := by decide +kernel
theorem dX10_left_30 : decode cX10_left 30 = .ok (.aload_n 0, 1) := by decide +kernel
theorem dX10_left_31 : decode cX10_left 31 = .ok (.getfield 24, 3) := by decide +kernel
theorem dX10_left_34 : decode cX10_left 34 = .ok (.iload_n 1, 1) := by decide +kernel
theorem dX10_left_35 : decode cX10_left 35 = .ok (.iaload, 1) := by decide +kernel
theorem dX10_left_36 : decode cX10_left 36 = .ok (.if_icmp .ge 36, 3) := by decide +kernel
theorem dX10_left_39 : decode cX10_left 39 = .ok (.aload_n 0, 1) := by decide +kernel
theorem dX10_left_40 : decode cX10_left 40 = .ok (.getfield 53, 3) := by decide +kernel
theorem dX10_left_43 : decode cX10_left 43 = .ok (.sipush 128, 3) := by decide +kernel
theorem dX10_left_46 : decode cX10_left 46 = .ok (.iload_n 1, 1) := by decide +kernel
theorem dX10_left_47 : decode cX10_left 47 = .ok (.imul, 1) := by decide +kernel
theorem dX10_left_48 : decode cX10_left 48 = .ok (.iload 4, 2) := by decide +kernel
theorem dX10_left_50 : decode cX10_left 50 = .ok (.iadd, 1) := by decide +kernel
theorem dX10_left_51 : decode cX10_left 51 = .ok (.baload, 1) := by decide +kernel
theorem dX10_left_52 : decode cX10_left 52 = .ok (.ifCond .eq 14, 3) := by decide +kernel
theorem dX10_left_55 : decode cX10_left 55 = .ok (.iload_n 3, 1) := by decide +kernel
theorem dX10_left_56 : decode cX10_left 56 = .ok (.iload_n 2, 1) := by decide +kernel
theorem dX10_left_57 : decode cX10_left 57 = .ok (.if_icmp .ne 6, 3) := by decide +kernel
theorem dX10_left_60 : decode cX10_left 60 = .ok (.iload 4, 2) := by decide +kernel
theorem dX10_left_62 : decode cX10_left 62 = .ok (.ireturn, 1) := by decide +kernel
theorem dX10_left_63 : decode cX10_left 63 = .ok (.iinc 3 1, 3) := by decide +kernel
theorem dX10_left_66 : decode cX10_left 66 = .ok (.iinc 4 1, 3) := by decide +kernel
theorem dX10_left_69 : decode cX10_left 69 = .ok (.goto (-41), 3) := by decide +kernel
theorem dX10_left_72 : decode cX10_left 72 = .ok (.iload_n 2, 1) := by decide +kernel
theorem dX10_left_73 : decode cX10_left 73 = .ok (.iconst (-1), 1) := by decide +kernel
theorem dX10_left_74 : decode cX10_left 74 = .ok (.if_icmp .ne 7, 3) := by decide +kernel
theorem dX10_left_77 : decode cX10_left 77 = .ok (.iload_n 3, 1) := by decide +kernel
theorem dX10_left_78 : decode cX10_left 78 = .ok (.goto 4, 3) := by decide +kernel
theorem dX10_left_81 : decode cX10_left 81 = .ok (.iconst (-1), 1) := by decide +kernel
theorem dX10_left_82 : decode cX10_left 82 = .ok (.ireturn, 1) := by decide +kernel
abbrev j10_left : xJ := (cX10_left, 5, RX10, 5, 0, 0)
def F10_left_b72 (z : Nat) (x2 : Int32) (x3 : Int32) (c_thrown : Int32) (c_many : (Nat → Int32)) (c_gains : (Nat → Int32)) (c_isLeft : (Nat → Int32)) (c_wentTimes : Int32) (c_goes : (Nat → Int32)) (c_isLeftLaid : Int32) : Option (Int32 × Int32 × (Nat → Int32) × Int32 × (Nat → Int32) × Int32) :=
  if x2 = (-1 : Int32) then (some (x3, c_thrown, c_isLeft, c_wentTimes, c_goes, c_isLeftLaid)) else (some ((-1 : Int32), c_thrown, c_isLeft, c_wentTimes, c_goes, c_isLeftLaid))
theorem T10_left_b72 {X : xX} {c_told : (Nat → Int32)} {c_read : (Nat → Int32)} {c_eights : (Nat → Int32)} {c_notes : (Nat → Int32)} {c_seen : (Nat → Int32)} {c_turns : (Nat → Int32)} {c_drawn : (Nat → Int32)} {c_state : Int32} {c_tape : (Nat → Int32)} {c_taped : Int32} {c_size : Int32} {c_from : Int32} {c_next : Int32} {c_token : Int32} {c_value : Int32} {c_fault : Int32} {c_number : Int32} {c_fives : (Nat → Int32)} {c_game : (Nat → Int32)} {c_rows : Int32} {c_columns : Int32} {c_isFound : Int32} {c_bestValue : Int64} {c_bestBelow : Int64} {c_bestShare : (Nat → Int64)} {c_share : (Nat → Int64)} {c_matrix : (Nat → Int64)} {c_system : (Nat → Int64)} {c_shares : (Nat → Int32)} {c_allShares : Int32} {x2 : Int32} {x3 : Int32} {c_thrown : Int32} {c_many : (Nat → Int32)} {c_gains : (Nat → Int32)} {c_isLeft : (Nat → Int32)} {c_wentTimes : Int32} {c_goes : (Nat → Int32)} {c_isLeftLaid : Int32} {z : Nat} {v : Int32 × Int32 × (Nat → Int32) × Int32 × (Nat → Int32) × Int32} (hX : xIs (j10_left) X ((some .int)) (some (.int v.1)) (hM v.2.1 c_told c_read c_many c_eights c_gains c_notes c_seen c_turns c_drawn c_state c_tape c_taped c_size c_from c_next c_token c_value c_fault c_number c_fives v.2.2.1 v.2.2.2.1 v.2.2.2.2.1 v.2.2.2.2.2 c_game c_rows c_columns c_isFound c_bestValue c_bestBelow c_bestShare c_share c_matrix c_system c_shares c_allShares)) (hf : F10_left_b72 z x2 x3 c_thrown c_many c_gains c_isLeft c_wentTimes c_goes c_isLeftLaid = some v) : xV (j10_left) X 0 0 (hM c_thrown c_told c_read c_many c_eights c_gains c_notes c_seen c_turns c_drawn c_state c_tape c_taped c_size c_from c_next c_token c_value c_fault c_number c_fives c_isLeft c_wentTimes c_goes c_isLeftLaid c_game c_rows c_columns c_isFound c_bestValue c_bestBelow c_bestShare c_share c_matrix c_system c_shares c_allShares) 72 [(2, .int x2), (3, .int x3)] [] := by
  unfold F10_left_b72 at hf
  refine xV_iload_n 73 rfl dX10_left_72 rfl 0 rfl ?_
  refine xV_iconst 74 rfl dX10_left_73 xk_im1 ?_
  refine xV_icmp_ne (tgt := 81) 77 rfl dX10_left_74 (by decide) (fun h74 => ?_) (fun h74 => ?_)
  · have hf := xif_f hf h74
    refine xV_iconst 82 rfl dX10_left_81 xk_im1 ?_
    obtain rfl := Option.some.inj hf
    exact xV_iret hX dX10_left_82 rfl (Nat.zero_le _) (Nat.zero_le _)
  · have hf := xif_t hf h74
    refine xV_iload_n 78 rfl dX10_left_77 rfl 1 rfl ?_
    refine xV_goto (tgt := 82) dX10_left_78 (by decide) ?_
    obtain rfl := Option.some.inj hf
    exact xV_iret hX dX10_left_82 rfl (Nat.zero_le _) (Nat.zero_le _)
def F10_left_b66 (z : Nat) (x1 : Int32) (x2 : Int32) (x3 : Int32) (x4 : Int32) (c_thrown : Int32) (c_many : (Nat → Int32)) (c_gains : (Nat → Int32)) (c_isLeft : (Nat → Int32)) (c_wentTimes : Int32) (c_goes : (Nat → Int32)) (c_isLeftLaid : Int32) (k28 : Int32 → Int32 → Int32 → Int32 → Int32 → (Nat → Int32) → (Nat → Int32) → (Nat → Int32) → Int32 → (Nat → Int32) → Int32 → Option (Int32 × Int32 × (Nat → Int32) × Int32 × (Nat → Int32) × Int32)) : Option (Int32 × Int32 × (Nat → Int32) × Int32 × (Nat → Int32) × Int32) :=
  k28 x1 x2 x3 (x4 + (1 : Int32)) c_thrown c_many c_gains c_isLeft c_wentTimes c_goes c_isLeftLaid
theorem T10_left_b66 {X : xX} {c_told : (Nat → Int32)} {c_read : (Nat → Int32)} {c_eights : (Nat → Int32)} {c_notes : (Nat → Int32)} {c_seen : (Nat → Int32)} {c_turns : (Nat → Int32)} {c_drawn : (Nat → Int32)} {c_state : Int32} {c_tape : (Nat → Int32)} {c_taped : Int32} {c_size : Int32} {c_from : Int32} {c_next : Int32} {c_token : Int32} {c_value : Int32} {c_fault : Int32} {c_number : Int32} {c_fives : (Nat → Int32)} {c_game : (Nat → Int32)} {c_rows : Int32} {c_columns : Int32} {c_isFound : Int32} {c_bestValue : Int64} {c_bestBelow : Int64} {c_bestShare : (Nat → Int64)} {c_share : (Nat → Int64)} {c_matrix : (Nat → Int64)} {c_system : (Nat → Int64)} {c_shares : (Nat → Int32)} {c_allShares : Int32} {x1 : Int32} {x2 : Int32} {x3 : Int32} {x4 : Int32} {c_thrown : Int32} {c_many : (Nat → Int32)} {c_gains : (Nat → Int32)} {c_isLeft : (Nat → Int32)} {c_wentTimes : Int32} {c_goes : (Nat → Int32)} {c_isLeftLaid : Int32} {z : Nat} {v : Int32 × Int32 × (Nat → Int32) × Int32 × (Nat → Int32) × Int32} {k28 : Int32 → Int32 → Int32 → Int32 → Int32 → (Nat → Int32) → (Nat → Int32) → (Nat → Int32) → Int32 → (Nat → Int32) → Int32 → Option (Int32 × Int32 × (Nat → Int32) × Int32 × (Nat → Int32) × Int32)} (hX : xIs (j10_left) X ((some .int)) (some (.int v.1)) (hM v.2.1 c_told c_read c_many c_eights c_gains c_notes c_seen c_turns c_drawn c_state c_tape c_taped c_size c_from c_next c_token c_value c_fault c_number c_fives v.2.2.1 v.2.2.2.1 v.2.2.2.2.1 v.2.2.2.2.2 c_game c_rows c_columns c_isFound c_bestValue c_bestBelow c_bestShare c_share c_matrix c_system c_shares c_allShares)) (hk28 : ∀ {x1 : Int32} {x2 : Int32} {x3 : Int32} {x4 : Int32} {c_thrown : Int32} {c_isLeft : (Nat → Int32)} {c_wentTimes : Int32} {c_goes : (Nat → Int32)} {c_isLeftLaid : Int32}, k28 x1 x2 x3 x4 c_thrown c_many c_gains c_isLeft c_wentTimes c_goes c_isLeftLaid = some v → xV (j10_left) X 0 0 (hM c_thrown c_told c_read c_many c_eights c_gains c_notes c_seen c_turns c_drawn c_state c_tape c_taped c_size c_from c_next c_token c_value c_fault c_number c_fives c_isLeft c_wentTimes c_goes c_isLeftLaid c_game c_rows c_columns c_isFound c_bestValue c_bestBelow c_bestShare c_share c_matrix c_system c_shares c_allShares) 28 [(0, .ref 0), (1, .int x1), (2, .int x2), (3, .int x3), (4, .int x4)] []) (hf : F10_left_b66 z x1 x2 x3 x4 c_thrown c_many c_gains c_isLeft c_wentTimes c_goes c_isLeftLaid k28 = some v) : xV (j10_left) X 0 0 (hM c_thrown c_told c_read c_many c_eights c_gains c_notes c_seen c_turns c_drawn c_state c_tape c_taped c_size c_from c_next c_token c_value c_fault c_number c_fives c_isLeft c_wentTimes c_goes c_isLeftLaid c_game c_rows c_columns c_isFound c_bestValue c_bestBelow c_bestShare c_share c_matrix c_system c_shares c_allShares) 66 [(0, .ref 0), (1, .int x1), (2, .int x2), (3, .int x3), (4, .int x4)] [] := by
  unfold F10_left_b66 at hf
  refine xV_iinc (L' := [(4, .int (x4 + (1 : Int32))), (0, .ref 0), (1, .int x1), (2, .int x2), (3, .int x3)]) 69 rfl dX10_left_66 4 rfl (xk_inc xk_i1) (xlt rfl) rfl ?_
  refine xV_goto (tgt := 28) dX10_left_69 (by decide) ?_
  refine xV_sub [1, 2, 3, 4, 0] rfl ?_
  exact hk28 hf
def F10_left_b28 (z : Nat) (w : Nat) (x1 : Int32) (x2 : Int32) (x3 : Int32) (x4 : Int32) (c_thrown : Int32) (c_many : (Nat → Int32)) (c_gains : (Nat → Int32)) (c_isLeft : (Nat → Int32)) (c_wentTimes : Int32) (c_goes : (Nat → Int32)) (c_isLeftLaid : Int32) : Option (Int32 × Int32 × (Nat → Int32) × Int32 × (Nat → Int32) × Int32) := match w with
  | 0 => none
  | w + 1 => xg (xin x1 2) (if (c_many (xn x1)) ≤ x4 then (F10_left_b72 z x2 x3 c_thrown c_many c_gains c_isLeft c_wentTimes c_goes c_isLeftLaid) else (xg (xin (((128 : Int32) * x1) + x4) 256) (if (c_isLeft (xn (((128 : Int32) * x1) + x4))) = 0 then (F10_left_b66 z x1 x2 x3 x4 c_thrown c_many c_gains c_isLeft c_wentTimes c_goes c_isLeftLaid (fun q0 q1 q2 q3 q4 q5 q6 q7 q8 q9 q10 => F10_left_b28 z w q0 q1 q2 q3 q4 q5 q6 q7 q8 q9 q10)) else (if x3 = x2 then (some (x4, c_thrown, c_isLeft, c_wentTimes, c_goes, c_isLeftLaid)) else (F10_left_b66 z x1 x2 (x3 + (1 : Int32)) x4 c_thrown c_many c_gains c_isLeft c_wentTimes c_goes c_isLeftLaid (fun q0 q1 q2 q3 q4 q5 q6 q7 q8 q9 q10 => F10_left_b28 z w q0 q1 q2 q3 q4 q5 q6 q7 q8 q9 q10))))))
theorem T10_left_b28 {X : xX} {c_told : (Nat → Int32)} {c_read : (Nat → Int32)} {c_many : (Nat → Int32)} {c_eights : (Nat → Int32)} {c_gains : (Nat → Int32)} {c_notes : (Nat → Int32)} {c_seen : (Nat → Int32)} {c_turns : (Nat → Int32)} {c_drawn : (Nat → Int32)} {c_state : Int32} {c_tape : (Nat → Int32)} {c_taped : Int32} {c_size : Int32} {c_from : Int32} {c_next : Int32} {c_token : Int32} {c_value : Int32} {c_fault : Int32} {c_number : Int32} {c_fives : (Nat → Int32)} {c_game : (Nat → Int32)} {c_rows : Int32} {c_columns : Int32} {c_isFound : Int32} {c_bestValue : Int64} {c_bestBelow : Int64} {c_bestShare : (Nat → Int64)} {c_share : (Nat → Int64)} {c_matrix : (Nat → Int64)} {c_system : (Nat → Int64)} {c_shares : (Nat → Int32)} {c_allShares : Int32} {z : Nat} {v : Int32 × Int32 × (Nat → Int32) × Int32 × (Nat → Int32) × Int32} (hX : xIs (j10_left) X ((some .int)) (some (.int v.1)) (hM v.2.1 c_told c_read c_many c_eights c_gains c_notes c_seen c_turns c_drawn c_state c_tape c_taped c_size c_from c_next c_token c_value c_fault c_number c_fives v.2.2.1 v.2.2.2.1 v.2.2.2.2.1 v.2.2.2.2.2 c_game c_rows c_columns c_isFound c_bestValue c_bestBelow c_bestShare c_share c_matrix c_system c_shares c_allShares)) : ∀ (w : Nat) {x1 : Int32} {x2 : Int32} {x3 : Int32} {x4 : Int32} {c_thrown : Int32} {c_isLeft : (Nat → Int32)} {c_wentTimes : Int32} {c_goes : (Nat → Int32)} {c_isLeftLaid : Int32}, F10_left_b28 z w x1 x2 x3 x4 c_thrown c_many c_gains c_isLeft c_wentTimes c_goes c_isLeftLaid = some v → xV (j10_left) X 0 0 (hM c_thrown c_told c_read c_many c_eights c_gains c_notes c_seen c_turns c_drawn c_state c_tape c_taped c_size c_from c_next c_token c_value c_fault c_number c_fives c_isLeft c_wentTimes c_goes c_isLeftLaid c_game c_rows c_columns c_isFound c_bestValue c_bestBelow c_bestShare c_share c_matrix c_system c_shares c_allShares) 28 [(0, .ref 0), (1, .int x1), (2, .int x2), (3, .int x3), (4, .int x4)] [] := by
  intro w
  induction w with
  | zero => intro x1 x2 x3 x4 c_thrown c_isLeft c_wentTimes c_goes c_isLeftLaid hf; cases hf
  | succ w ih =>
    intro x1 x2 x3 x4 c_thrown c_isLeft c_wentTimes c_goes c_isLeftLaid hf
    unfold F10_left_b28 at hf
    refine xV_iload 30 rfl dX10_left_28 4 rfl ?_
    refine xV_aload_n 31 rfl dX10_left_30 rfl 0 rfl ?_
    refine xV_get (v := .ref 3) 34 rfl dX10_left_31 f10_24 rfl rfl ?_
    refine xV_iload_n 35 rfl dX10_left_34 rfl 1 rfl ?_
    obtain ⟨hg35, hf⟩ := xg_s hf
    refine xV_iaload 36 rfl dX10_left_35 rfl (xin_ok hg35) rfl ?_
    refine xV_icmp_ge (tgt := 72) 39 rfl dX10_left_36 (by decide) (fun h36 => ?_) (fun h36 => ?_)
    · have hf := xif_t hf h36
      refine xV_sub [2, 3] rfl ?_
      exact T10_left_b72 hX hf
    · have hf := xif_f hf h36
      refine xV_aload_n 40 rfl dX10_left_39 rfl 0 rfl ?_
      refine xV_get (v := .ref 12) 43 rfl dX10_left_40 f10_53 rfl rfl ?_
      refine xV_sipush 46 rfl dX10_left_43 xk_s128 ?_
      refine xV_iload_n 47 rfl dX10_left_46 rfl 1 rfl ?_
      refine xV_imul 48 rfl dX10_left_47 ?_
      refine xV_iload 50 rfl dX10_left_48 4 rfl ?_
      refine xV_iadd 51 rfl dX10_left_50 ?_
      obtain ⟨hg51, hf⟩ := xg_s hf
      refine xV_zaload 52 rfl dX10_left_51 rfl (xin_ok hg51) rfl ?_
      refine xV_if_eq (tgt := 66) 55 rfl dX10_left_52 (by decide) (fun h52 => ?_) (fun h52 => ?_)
      · have hf := xif_t hf h52
        exact T10_left_b66 hX (fun {_ _ _ _ _ _ _ _ _} hq => ih hq) hf
      · have hf := xif_f hf h52
        refine xV_iload_n 56 rfl dX10_left_55 rfl 3 rfl ?_
        refine xV_iload_n 57 rfl dX10_left_56 rfl 2 rfl ?_
        refine xV_icmp_ne (tgt := 63) 60 rfl dX10_left_57 (by decide) (fun h57 => ?_) (fun h57 => ?_)
        · have hf := xif_f hf h57
          refine xV_iinc (L' := [(3, .int (x3 + (1 : Int32))), (0, .ref 0), (1, .int x1), (2, .int x2), (4, .int x4)]) 66 rfl dX10_left_63 3 rfl (xk_inc xk_i1) (xlt rfl) rfl ?_
          refine xV_sub [1, 2, 3, 0, 4] rfl ?_
          exact T10_left_b66 hX (fun {_ _ _ _ _ _ _ _ _} hq => ih hq) hf
        · have hf := xif_t hf h57
          refine xV_iload 62 rfl dX10_left_60 4 rfl ?_
          obtain rfl := Option.some.inj hf
          exact xV_iret hX dX10_left_62 rfl (Nat.zero_le _) (Nat.zero_le _)
def F10_left (z : Nat) (x1 : Int32) (x2 : Int32) (c_thrown : Int32) (c_many : (Nat → Int32)) (c_gains : (Nat → Int32)) (c_isLeft : (Nat → Int32)) (c_wentTimes : Int32) (c_goes : (Nat → Int32)) (c_isLeftLaid : Int32) : Option (Int32 × Int32 × (Nat → Int32) × Int32 × (Nat → Int32) × Int32) :=
  (F10_isSide x1).bind (fun v6 => if v6 = 0 then (some ((-1 : Int32), (0 : Int32), c_isLeft, c_wentTimes, c_goes, c_isLeftLaid)) else (if (-1 : Int32) ≤ x2 then ((F10_laysLeft z c_many c_gains c_isLeft c_wentTimes c_goes c_isLeftLaid).bind (fun v20 => F10_left_b28 z z x1 x2 (0 : Int32) (0 : Int32) (0 : Int32) c_many c_gains v20.1 v20.2.1 v20.2.2.1 v20.2.2.2)) else (some ((-1 : Int32), (0 : Int32), c_isLeft, c_wentTimes, c_goes, c_isLeftLaid))))
theorem T10_left {X : xX} {z : Nat} {x1 : Int32} {x2 : Int32} {c_thrown : Int32} {c_many : (Nat → Int32)} {c_gains : (Nat → Int32)} {c_isLeft : (Nat → Int32)} {c_wentTimes : Int32} {c_goes : (Nat → Int32)} {c_isLeftLaid : Int32} {c_told : (Nat → Int32)} {c_read : (Nat → Int32)} {c_eights : (Nat → Int32)} {c_notes : (Nat → Int32)} {c_seen : (Nat → Int32)} {c_turns : (Nat → Int32)} {c_drawn : (Nat → Int32)} {c_state : Int32} {c_tape : (Nat → Int32)} {c_taped : Int32} {c_size : Int32} {c_from : Int32} {c_next : Int32} {c_token : Int32} {c_value : Int32} {c_fault : Int32} {c_number : Int32} {c_fives : (Nat → Int32)} {c_game : (Nat → Int32)} {c_rows : Int32} {c_columns : Int32} {c_isFound : Int32} {c_bestValue : Int64} {c_bestBelow : Int64} {c_bestShare : (Nat → Int64)} {c_share : (Nat → Int64)} {c_matrix : (Nat → Int64)} {c_system : (Nat → Int64)} {c_shares : (Nat → Int32)} {c_allShares : Int32} {v : Int32 × Int32 × (Nat → Int32) × Int32 × (Nat → Int32) × Int32} (hX : xIs (j10_left) X ((some .int)) (some (.int v.1)) (hM v.2.1 c_told c_read c_many c_eights c_gains c_notes c_seen c_turns c_drawn c_state c_tape c_taped c_size c_from c_next c_token c_value c_fault c_number c_fives v.2.2.1 v.2.2.2.1 v.2.2.2.2.1 v.2.2.2.2.2 c_game c_rows c_columns c_isFound c_bestValue c_bestBelow c_bestShare c_share c_matrix c_system c_shares c_allShares)) (hf : F10_left z x1 x2 c_thrown c_many c_gains c_isLeft c_wentTimes c_goes c_isLeftLaid = some v) : xV (j10_left) X 0 0 (hM c_thrown c_told c_read c_many c_eights c_gains c_notes c_seen c_turns c_drawn c_state c_tape c_taped c_size c_from c_next c_token c_value c_fault c_number c_fives c_isLeft c_wentTimes c_goes c_isLeftLaid c_game c_rows c_columns c_isFound c_bestValue c_bestBelow c_bestShare c_share c_matrix c_system c_shares c_allShares) 0 [(0, .ref 0), (1, .int x1), (2, .int x2)] [] := by
  unfold F10_left at hf
  refine xV_aload_n 1 rfl dX10_left_0 rfl 0 rfl ?_
  refine xV_iconst 2 rfl dX10_left_1 xk_i0 ?_
  refine xV_put (h' := (hM (0 : Int32) c_told c_read c_many c_eights c_gains c_notes c_seen c_turns c_drawn c_state c_tape c_taped c_size c_from c_next c_token c_value c_fault c_number c_fives c_isLeft c_wentTimes c_goes c_isLeftLaid c_game c_rows c_columns c_isFound c_bestValue c_bestBelow c_bestShare c_share c_matrix c_system c_shares c_allShares)) 5 rfl dX10_left_2 f10_1 rfl nf10_0 (fun _ => rfl) (fun _ => rfl) (Nat.le_of_ble_eq_true rfl) rfl ?_
  refine xV_iload_n 6 rfl dX10_left_5 rfl 1 rfl ?_
  obtain ⟨v6, hv6, hf⟩ := xb_s hf
  refine xV_st0 (rest := []) 9 rfl dX10_left_6 rfl (C10_isSide X.1.2.1 hv6) m10_isSide s10_isSide k10_105 rfl (Nat.le_of_ble_eq_true rfl) (Nat.le_of_ble_eq_true rfl) (Nat.le_of_ble_eq_true rfl) ⟨Nat.le_refl _, Nat.le_refl _⟩ ?_
  show xV (j10_left) X 0 0 (hM (0 : Int32) c_told c_read c_many c_eights c_gains c_notes c_seen c_turns c_drawn c_state c_tape c_taped c_size c_from c_next c_token c_value c_fault c_number c_fives c_isLeft c_wentTimes c_goes c_isLeftLaid c_game c_rows c_columns c_isFound c_bestValue c_bestBelow c_bestShare c_share c_matrix c_system c_shares c_allShares) 9 [(0, .ref 0), (1, .int x1), (2, .int x2)] [.int v6]
  refine xV_if_eq (tgt := 17) 12 rfl dX10_left_9 (by decide) (fun h9 => ?_) (fun h9 => ?_)
  · have hf := xif_t hf h9
    refine xV_iconst 18 rfl dX10_left_17 xk_im1 ?_
    obtain rfl := Option.some.inj hf
    exact xV_iret hX dX10_left_18 rfl (Nat.zero_le _) (Nat.zero_le _)
  · have hf := xif_f hf h9
    refine xV_iload_n 13 rfl dX10_left_12 rfl 2 rfl ?_
    refine xV_iconst 14 rfl dX10_left_13 xk_im1 ?_
    refine xV_icmp_ge (tgt := 19) 17 rfl dX10_left_14 (by decide) (fun h14 => ?_) (fun h14 => ?_)
    · have hf := xif_t hf h14
      refine xV_aload_n 20 rfl dX10_left_19 rfl 0 rfl ?_
      obtain ⟨v20, hv20, hf⟩ := xb_s hf
      refine xV_same (rest := []) 23 rfl dX10_left_20 rfl (C10_laysLeft X.1.2.1 hv20) m10_laysLeft v10_laysLeft k10_246 rfl rfl rfl rfl rfl (Nat.le_of_ble_eq_true rfl) (Nat.le_of_ble_eq_true rfl) (Nat.le_of_ble_eq_true rfl) ⟨Nat.le_refl _, Nat.le_refl _⟩ ?_
      show xV (j10_left) X 0 0 (hM (0 : Int32) c_told c_read c_many c_eights c_gains c_notes c_seen c_turns c_drawn c_state c_tape c_taped c_size c_from c_next c_token c_value c_fault c_number c_fives v20.1 v20.2.1 v20.2.2.1 v20.2.2.2 c_game c_rows c_columns c_isFound c_bestValue c_bestBelow c_bestShare c_share c_matrix c_system c_shares c_allShares) 23 [(0, .ref 0), (1, .int x1), (2, .int x2)] []
      refine xV_iconst 24 rfl dX10_left_23 xk_i0 ?_
      refine xV_istore_n (L' := [(3, .int (0 : Int32)), (0, .ref 0), (1, .int x1), (2, .int x2)]) 25 rfl dX10_left_24 rfl (xlt rfl) rfl ?_
      refine xV_iconst 26 rfl dX10_left_25 xk_i0 ?_
      refine xV_istore (L' := [(4, .int (0 : Int32)), (3, .int (0 : Int32)), (0, .ref 0), (1, .int x1), (2, .int x2)]) 28 rfl dX10_left_26 (xlt rfl) rfl ?_
      refine xV_sub [2, 3, 4, 1, 0] rfl ?_
      exact T10_left_b28 hX _ hf
    · have hf := xif_f hf h14
      refine xV_iconst 18 rfl dX10_left_17 xk_im1 ?_
      obtain rfl := Option.some.inj hf
      exact xV_iret hX dX10_left_18 rfl (Nat.zero_le _) (Nat.zero_le _)
theorem C10_left (l : Launch) {z : Nat} {x1 : Int32} {x2 : Int32} {c_thrown : Int32} {c_many : (Nat → Int32)} {c_gains : (Nat → Int32)} {c_isLeft : (Nat → Int32)} {c_wentTimes : Int32} {c_goes : (Nat → Int32)} {c_isLeftLaid : Int32} {c_told : (Nat → Int32)} {c_read : (Nat → Int32)} {c_eights : (Nat → Int32)} {c_notes : (Nat → Int32)} {c_seen : (Nat → Int32)} {c_turns : (Nat → Int32)} {c_drawn : (Nat → Int32)} {c_state : Int32} {c_tape : (Nat → Int32)} {c_taped : Int32} {c_size : Int32} {c_from : Int32} {c_next : Int32} {c_token : Int32} {c_value : Int32} {c_fault : Int32} {c_number : Int32} {c_fives : (Nat → Int32)} {c_game : (Nat → Int32)} {c_rows : Int32} {c_columns : Int32} {c_isFound : Int32} {c_bestValue : Int64} {c_bestBelow : Int64} {c_bestShare : (Nat → Int64)} {c_share : (Nat → Int64)} {c_matrix : (Nat → Int64)} {c_system : (Nat → Int64)} {c_shares : (Nat → Int32)} {c_allShares : Int32} {v : Int32 × Int32 × (Nat → Int32) × Int32 × (Nat → Int32) × Int32} (hf : F10_left z x1 x2 c_thrown c_many c_gains c_isLeft c_wentTimes c_goes c_isLeftLaid = some v) : xCt l yX10_left ((some .int)) j10_left [.ref 0, .int x1, .int x2] (hM c_thrown c_told c_read c_many c_eights c_gains c_notes c_seen c_turns c_drawn c_state c_tape c_taped c_size c_from c_next c_token c_value c_fault c_number c_fives c_isLeft c_wentTimes c_goes c_isLeftLaid c_game c_rows c_columns c_isFound c_bestValue c_bestBelow c_bestShare c_share c_matrix c_system c_shares c_allShares) (some (.int v.1)) (hM v.2.1 c_told c_read c_many c_eights c_gains c_notes c_seen c_turns c_drawn c_state c_tape c_taped c_size c_from c_next c_token c_value c_fault c_number c_fives v.2.2.1 v.2.2.2.1 v.2.2.2.2.1 v.2.2.2.2.2 c_game c_rows c_columns c_isFound c_bestValue c_bestBelow c_bestShare c_share c_matrix c_system c_shares c_allShares) := xCt_of (by decide) rfl (Nat.le_of_ble_eq_true rfl) (fun _ hX => T10_left hX hf)
theorem m10_left : xMd yX10_left RX10 ((some .int)) j10_left 2 := ⟨List.mem_of_getElem? (i := 753) (by decide +kernel), List.mem_of_getElem? (i := 5) (by decide +kernel), rfl, by decide +kernel⟩
theorem v10_left : xMv yX10_left RX10 := ⟨List.mem_of_getElem? (i := 751) (by decide +kernel), List.mem_of_getElem? (i := 752) (by decide +kernel)⟩
theorem dX10_rounds_0 : decode cX10_rounds 0 = .ok (.aload_n 0, 1) := by decide +kernel
theorem dX10_rounds_1 : decode cX10_rounds 1 = .ok (.iconst 0, 1) := by decide +kernel
theorem dX10_rounds_2 : decode cX10_rounds 2 = .ok (.putfield 1, 3) := by decide +kernel
theorem dX10_rounds_5 : decode cX10_rounds 5 = .ok (.aload_n 0, 1) := by decide +kernel
theorem dX10_rounds_6 : decode cX10_rounds 6 = .ok (.invokevirtual 246, 3) := by decide +kernel
theorem dX10_rounds_9 : decode cX10_rounds 9 = .ok (.aload_n 0, 1) := by decide +kernel
theorem dX10_rounds_10 : decode cX10_rounds 10 = .ok (.getfield 240, 3) := by decide +kernel
theorem dX10_rounds_13 : decode cX10_rounds 13 = .ok (.ireturn, 1) := by decide +kernel
abbrev j10_rounds : xJ := (cX10_rounds, 1, RX10, 5, 0, 0)
def F10_rounds (z : Nat) (c_thrown : Int32) (c_many : (Nat → Int32)) (c_gains : (Nat → Int32)) (c_isLeft : (Nat → Int32)) (c_wentTimes : Int32) (c_goes : (Nat → Int32)) (c_isLeftLaid : Int32) : Option (Int32 × Int32 × (Nat → Int32) × Int32 × (Nat → Int32) × Int32) :=
  (F10_laysLeft z c_many c_gains c_isLeft c_wentTimes c_goes c_isLeftLaid).bind (fun v6 => some (v6.2.1, (0 : Int32), v6.1, v6.2.1, v6.2.2.1, v6.2.2.2))
theorem T10_rounds {X : xX} {z : Nat} {c_thrown : Int32} {c_many : (Nat → Int32)} {c_gains : (Nat → Int32)} {c_isLeft : (Nat → Int32)} {c_wentTimes : Int32} {c_goes : (Nat → Int32)} {c_isLeftLaid : Int32} {c_told : (Nat → Int32)} {c_read : (Nat → Int32)} {c_eights : (Nat → Int32)} {c_notes : (Nat → Int32)} {c_seen : (Nat → Int32)} {c_turns : (Nat → Int32)} {c_drawn : (Nat → Int32)} {c_state : Int32} {c_tape : (Nat → Int32)} {c_taped : Int32} {c_size : Int32} {c_from : Int32} {c_next : Int32} {c_token : Int32} {c_value : Int32} {c_fault : Int32} {c_number : Int32} {c_fives : (Nat → Int32)} {c_game : (Nat → Int32)} {c_rows : Int32} {c_columns : Int32} {c_isFound : Int32} {c_bestValue : Int64} {c_bestBelow : Int64} {c_bestShare : (Nat → Int64)} {c_share : (Nat → Int64)} {c_matrix : (Nat → Int64)} {c_system : (Nat → Int64)} {c_shares : (Nat → Int32)} {c_allShares : Int32} {v : Int32 × Int32 × (Nat → Int32) × Int32 × (Nat → Int32) × Int32} (hX : xIs (j10_rounds) X ((some .int)) (some (.int v.1)) (hM v.2.1 c_told c_read c_many c_eights c_gains c_notes c_seen c_turns c_drawn c_state c_tape c_taped c_size c_from c_next c_token c_value c_fault c_number c_fives v.2.2.1 v.2.2.2.1 v.2.2.2.2.1 v.2.2.2.2.2 c_game c_rows c_columns c_isFound c_bestValue c_bestBelow c_bestShare c_share c_matrix c_system c_shares c_allShares)) (hf : F10_rounds z c_thrown c_many c_gains c_isLeft c_wentTimes c_goes c_isLeftLaid = some v) : xV (j10_rounds) X 0 0 (hM c_thrown c_told c_read c_many c_eights c_gains c_notes c_seen c_turns c_drawn c_state c_tape c_taped c_size c_from c_next c_token c_value c_fault c_number c_fives c_isLeft c_wentTimes c_goes c_isLeftLaid c_game c_rows c_columns c_isFound c_bestValue c_bestBelow c_bestShare c_share c_matrix c_system c_shares c_allShares) 0 [(0, .ref 0)] [] := by
  unfold F10_rounds at hf
  refine xV_aload_n 1 rfl dX10_rounds_0 rfl 0 rfl ?_
  refine xV_iconst 2 rfl dX10_rounds_1 xk_i0 ?_
  refine xV_put (h' := (hM (0 : Int32) c_told c_read c_many c_eights c_gains c_notes c_seen c_turns c_drawn c_state c_tape c_taped c_size c_from c_next c_token c_value c_fault c_number c_fives c_isLeft c_wentTimes c_goes c_isLeftLaid c_game c_rows c_columns c_isFound c_bestValue c_bestBelow c_bestShare c_share c_matrix c_system c_shares c_allShares)) 5 rfl dX10_rounds_2 f10_1 rfl nf10_0 (fun _ => rfl) (fun _ => rfl) (Nat.le_of_ble_eq_true rfl) rfl ?_
  refine xV_aload_n 6 rfl dX10_rounds_5 rfl 0 rfl ?_
  obtain ⟨v6, hv6, hf⟩ := xb_s hf
  refine xV_same (rest := []) 9 rfl dX10_rounds_6 rfl (C10_laysLeft X.1.2.1 hv6) m10_laysLeft v10_laysLeft k10_246 rfl rfl rfl rfl rfl (Nat.le_of_ble_eq_true rfl) (Nat.le_of_ble_eq_true rfl) (Nat.le_of_ble_eq_true rfl) ⟨Nat.le_refl _, Nat.le_refl _⟩ ?_
  show xV (j10_rounds) X 0 0 (hM (0 : Int32) c_told c_read c_many c_eights c_gains c_notes c_seen c_turns c_drawn c_state c_tape c_taped c_size c_from c_next c_token c_value c_fault c_number c_fives v6.1 v6.2.1 v6.2.2.1 v6.2.2.2 c_game c_rows c_columns c_isFound c_bestValue c_bestBelow c_bestShare c_share c_matrix c_system c_shares c_allShares) 9 [(0, .ref 0)] []
  refine xV_aload_n 10 rfl dX10_rounds_9 rfl 0 rfl ?_
  refine xV_get (v := .int v6.2.1) 13 rfl dX10_rounds_10 f10_240 rfl rfl ?_
  obtain rfl := Option.some.inj hf
  exact xV_iret hX dX10_rounds_13 rfl (Nat.zero_le _) (Nat.zero_le _)
theorem C10_rounds (l : Launch) {z : Nat} {c_thrown : Int32} {c_many : (Nat → Int32)} {c_gains : (Nat → Int32)} {c_isLeft : (Nat → Int32)} {c_wentTimes : Int32} {c_goes : (Nat → Int32)} {c_isLeftLaid : Int32} {c_told : (Nat → Int32)} {c_read : (Nat → Int32)} {c_eights : (Nat → Int32)} {c_notes : (Nat → Int32)} {c_seen : (Nat → Int32)} {c_turns : (Nat → Int32)} {c_drawn : (Nat → Int32)} {c_state : Int32} {c_tape : (Nat → Int32)} {c_taped : Int32} {c_size : Int32} {c_from : Int32} {c_next : Int32} {c_token : Int32} {c_value : Int32} {c_fault : Int32} {c_number : Int32} {c_fives : (Nat → Int32)} {c_game : (Nat → Int32)} {c_rows : Int32} {c_columns : Int32} {c_isFound : Int32} {c_bestValue : Int64} {c_bestBelow : Int64} {c_bestShare : (Nat → Int64)} {c_share : (Nat → Int64)} {c_matrix : (Nat → Int64)} {c_system : (Nat → Int64)} {c_shares : (Nat → Int32)} {c_allShares : Int32} {v : Int32 × Int32 × (Nat → Int32) × Int32 × (Nat → Int32) × Int32} (hf : F10_rounds z c_thrown c_many c_gains c_isLeft c_wentTimes c_goes c_isLeftLaid = some v) : xCt l yX10_rounds ((some .int)) j10_rounds [.ref 0] (hM c_thrown c_told c_read c_many c_eights c_gains c_notes c_seen c_turns c_drawn c_state c_tape c_taped c_size c_from c_next c_token c_value c_fault c_number c_fives c_isLeft c_wentTimes c_goes c_isLeftLaid c_game c_rows c_columns c_isFound c_bestValue c_bestBelow c_bestShare c_share c_matrix c_system c_shares c_allShares) (some (.int v.1)) (hM v.2.1 c_told c_read c_many c_eights c_gains c_notes c_seen c_turns c_drawn c_state c_tape c_taped c_size c_from c_next c_token c_value c_fault c_number c_fives v.2.2.1 v.2.2.2.1 v.2.2.2.2.1 v.2.2.2.2.2 c_game c_rows c_columns c_isFound c_bestValue c_bestBelow c_bestShare c_share c_matrix c_system c_shares c_allShares) := xCt_of (by decide) rfl (Nat.le_of_ble_eq_true rfl) (fun _ hX => T10_rounds hX hf)
theorem m10_rounds : xMd yX10_rounds RX10 ((some .int)) j10_rounds 0 := ⟨List.mem_of_getElem? (i := 771) (by decide +kernel), List.mem_of_getElem? (i := 5) (by decide +kernel), rfl, by decide +kernel⟩
theorem v10_rounds : xMv yX10_rounds RX10 := ⟨List.mem_of_getElem? (i := 769) (by decide +kernel), List.mem_of_getElem? (i := 770) (by decide +kernel)⟩
theorem dX10_safeOf_0 : decode cX10_safeOf 0 = .ok (.ldc 170, 2) := by decide +kernel
theorem dX10_safeOf_2 : decode cX10_safeOf 2 = .ok (.istore_n 3, 1) := by decide +kernel
theorem dX10_safeOf_3 : decode cX10_safeOf 3 = .ok (.iconst 0, 1) := by decide +kernel
theorem dX10_safeOf_4 : decode cX10_safeOf 4 = .ok (.istore 4, 2) := by decide +kernel
theorem dX10_safeOf_6 : decode cX10_safeOf 6 = .ok (.iload 4, 2) := by decide +kernel
theorem dX10_safeOf_8 : decode cX10_safeOf 8 = .ok (.aload_n 0, 1) := by decide +kernel
theorem dX10_safeOf_9 : decode cX10_safeOf 9 = .ok (.getfield 24, 3) := by decide +kernel
theorem dX10_safeOf_12 : decode cX10_safeOf 12 = .ok (.iconst 1, 1) := by decide +kernel
theorem dX10_safeOf_13 : decode cX10_safeOf 13 = .ok (.iload_n 1, 1) := by decide +kernel
theorem dX10_safeOf_14 : decode cX10_safeOf 14 = .ok (.isub, 1) := by decide +kernel
theorem dX10_safeOf_15 : decode cX10_safeOf 15 = .ok (.iaload, 1) := by decide +kernel
theorem dX10_safeOf_16 : decode cX10_safeOf 16 = .ok (.if_icmp .ge 34, 3) := by decide +kernel
theorem dX10_safeOf_19 : decode cX10_safeOf 19 = .ok (.aload_n 0, 1) := by decide +kernel
theorem dX10_safeOf_20 : decode cX10_safeOf 20 = .ok (.iload_n 1, 1) := by decide +kernel
theorem dX10_safeOf_21 : decode cX10_safeOf 21 = .ok (.iload_n 2, 1) := by decide +kernel
theorem dX10_safeOf_22 : decode cX10_safeOf 22 = .ok (.iload 4, 2) := by decide +kernel
theorem dX10_safeOf_24 : decode cX10_safeOf 24 = .ok (.invokevirtual 233, 3) := by decide +kernel
theorem dX10_safeOf_27 : decode cX10_safeOf 27 = .ok (.iload_n 3, 1) := by decide +kernel
theorem dX10_safeOf_28 : decode cX10_safeOf 28 = .ok (.if_icmp .ge 14, 3) := by decide +kernel
theorem dX10_safeOf_31 : decode cX10_safeOf 31 = .ok (.aload_n 0, 1) := by decide +kernel
theorem dX10_safeOf_32 : decode cX10_safeOf 32 = .ok (.iload_n 1, 1) := by decide +kernel
theorem dX10_safeOf_33 : decode cX10_safeOf 33 = .ok (.iload_n 2, 1) := by decide +kernel
theorem dX10_safeOf_34 : decode cX10_safeOf 34 = .ok (.iload 4, 2) := by decide +kernel
theorem dX10_safeOf_36 : decode cX10_safeOf 36 = .ok (.invokevirtual 233, 3) := by decide +kernel
theorem dX10_safeOf_39 : decode cX10_safeOf 39 = .ok (.goto 4, 3) := by decide +kernel
theorem dX10_safeOf_42 : decode cX10_safeOf 42 = .ok (.iload_n 3, 1) := by decide +kernel
theorem dX10_safeOf_43 : decode cX10_safeOf 43 = .ok (.istore_n 3, 1) := by decide +kernel
theorem dX10_safeOf_44 : decode cX10_safeOf 44 = .ok (.iinc 4 1, 3) := by decide +kernel
theorem dX10_safeOf_47 : decode cX10_safeOf 47 = .ok (.goto (-41), 3) := by decide +kernel
theorem dX10_safeOf_50 : decode cX10_safeOf 50 = .ok (.iload_n 3, 1) := by decide +kernel
theorem dX10_safeOf_51 : decode cX10_safeOf 51 = .ok (.ireturn, 1) := by decide +kernel
abbrev j10_safeOf : xJ := (cX10_safeOf, 5, RX10, 2, 0, 0)
def F10_safeOf_b43 (z : Nat) (x1 : Int32) (x2 : Int32) (x4 : Int32) (s0 : Int32) (c_many : (Nat → Int32)) (c_gains : (Nat → Int32)) (k6 : Int32 → Int32 → Int32 → Int32 → (Nat → Int32) → (Nat → Int32) → Option (Int32)) : Option (Int32) :=
  k6 x1 x2 s0 (x4 + (1 : Int32)) c_many c_gains
theorem T10_safeOf_b43 {X : xX} {c_thrown : Int32} {c_told : (Nat → Int32)} {c_read : (Nat → Int32)} {c_eights : (Nat → Int32)} {c_notes : (Nat → Int32)} {c_seen : (Nat → Int32)} {c_turns : (Nat → Int32)} {c_drawn : (Nat → Int32)} {c_state : Int32} {c_tape : (Nat → Int32)} {c_taped : Int32} {c_size : Int32} {c_from : Int32} {c_next : Int32} {c_token : Int32} {c_value : Int32} {c_fault : Int32} {c_number : Int32} {c_fives : (Nat → Int32)} {c_isLeft : (Nat → Int32)} {c_wentTimes : Int32} {c_goes : (Nat → Int32)} {c_isLeftLaid : Int32} {c_game : (Nat → Int32)} {c_rows : Int32} {c_columns : Int32} {c_isFound : Int32} {c_bestValue : Int64} {c_bestBelow : Int64} {c_bestShare : (Nat → Int64)} {c_share : (Nat → Int64)} {c_matrix : (Nat → Int64)} {c_system : (Nat → Int64)} {c_shares : (Nat → Int32)} {c_allShares : Int32} {x1 : Int32} {x2 : Int32} {x4 : Int32} {s0 : Int32} {c_many : (Nat → Int32)} {c_gains : (Nat → Int32)} {z : Nat} {v : Int32} {k6 : Int32 → Int32 → Int32 → Int32 → (Nat → Int32) → (Nat → Int32) → Option (Int32)} (hX : xIs (j10_safeOf) X ((some .int)) (some (.int v)) (hM c_thrown c_told c_read c_many c_eights c_gains c_notes c_seen c_turns c_drawn c_state c_tape c_taped c_size c_from c_next c_token c_value c_fault c_number c_fives c_isLeft c_wentTimes c_goes c_isLeftLaid c_game c_rows c_columns c_isFound c_bestValue c_bestBelow c_bestShare c_share c_matrix c_system c_shares c_allShares)) (hk6 : ∀ {x1 : Int32} {x2 : Int32} {x3 : Int32} {x4 : Int32}, k6 x1 x2 x3 x4 c_many c_gains = some v → xV (j10_safeOf) X 0 0 (hM c_thrown c_told c_read c_many c_eights c_gains c_notes c_seen c_turns c_drawn c_state c_tape c_taped c_size c_from c_next c_token c_value c_fault c_number c_fives c_isLeft c_wentTimes c_goes c_isLeftLaid c_game c_rows c_columns c_isFound c_bestValue c_bestBelow c_bestShare c_share c_matrix c_system c_shares c_allShares) 6 [(0, .ref 0), (1, .int x1), (2, .int x2), (3, .int x3), (4, .int x4)] []) (hf : F10_safeOf_b43 z x1 x2 x4 s0 c_many c_gains k6 = some v) : xV (j10_safeOf) X 0 0 (hM c_thrown c_told c_read c_many c_eights c_gains c_notes c_seen c_turns c_drawn c_state c_tape c_taped c_size c_from c_next c_token c_value c_fault c_number c_fives c_isLeft c_wentTimes c_goes c_isLeftLaid c_game c_rows c_columns c_isFound c_bestValue c_bestBelow c_bestShare c_share c_matrix c_system c_shares c_allShares) 43 [(0, .ref 0), (1, .int x1), (2, .int x2), (4, .int x4)] [.int s0] := by
  unfold F10_safeOf_b43 at hf
  refine xV_istore_n (L' := [(3, .int s0), (0, .ref 0), (1, .int x1), (2, .int x2), (4, .int x4)]) 44 rfl dX10_safeOf_43 rfl (xlt rfl) rfl ?_
  refine xV_iinc (L' := [(4, .int (x4 + (1 : Int32))), (3, .int s0), (0, .ref 0), (1, .int x1), (2, .int x2)]) 47 rfl dX10_safeOf_44 4 rfl (xk_inc xk_i1) (xlt rfl) rfl ?_
  refine xV_goto (tgt := 6) dX10_safeOf_47 (by decide) ?_
  refine xV_sub [2, 3, 4, 1, 0] rfl ?_
  exact hk6 hf
def F10_safeOf_b6 (z : Nat) (w : Nat) (x1 : Int32) (x2 : Int32) (x3 : Int32) (x4 : Int32) (c_many : (Nat → Int32)) (c_gains : (Nat → Int32)) : Option (Int32) := match w with
  | 0 => none
  | w + 1 => xg (xin ((1 : Int32) - x1) 2) (if (c_many (xn ((1 : Int32) - x1))) ≤ x4 then (some (x3)) else ((F10_gainFor x1 x2 x4 c_gains).bind (fun v24 => if x3 ≤ v24 then (F10_safeOf_b43 z x1 x2 x4 x3 c_many c_gains (fun q0 q1 q2 q3 q4 q5 => F10_safeOf_b6 z w q0 q1 q2 q3 q4 q5)) else ((F10_gainFor x1 x2 x4 c_gains).bind (fun v36 => F10_safeOf_b43 z x1 x2 x4 v36 c_many c_gains (fun q0 q1 q2 q3 q4 q5 => F10_safeOf_b6 z w q0 q1 q2 q3 q4 q5))))))
theorem T10_safeOf_b6 {X : xX} {c_thrown : Int32} {c_told : (Nat → Int32)} {c_read : (Nat → Int32)} {c_many : (Nat → Int32)} {c_eights : (Nat → Int32)} {c_gains : (Nat → Int32)} {c_notes : (Nat → Int32)} {c_seen : (Nat → Int32)} {c_turns : (Nat → Int32)} {c_drawn : (Nat → Int32)} {c_state : Int32} {c_tape : (Nat → Int32)} {c_taped : Int32} {c_size : Int32} {c_from : Int32} {c_next : Int32} {c_token : Int32} {c_value : Int32} {c_fault : Int32} {c_number : Int32} {c_fives : (Nat → Int32)} {c_isLeft : (Nat → Int32)} {c_wentTimes : Int32} {c_goes : (Nat → Int32)} {c_isLeftLaid : Int32} {c_game : (Nat → Int32)} {c_rows : Int32} {c_columns : Int32} {c_isFound : Int32} {c_bestValue : Int64} {c_bestBelow : Int64} {c_bestShare : (Nat → Int64)} {c_share : (Nat → Int64)} {c_matrix : (Nat → Int64)} {c_system : (Nat → Int64)} {c_shares : (Nat → Int32)} {c_allShares : Int32} {z : Nat} {v : Int32} (hX : xIs (j10_safeOf) X ((some .int)) (some (.int v)) (hM c_thrown c_told c_read c_many c_eights c_gains c_notes c_seen c_turns c_drawn c_state c_tape c_taped c_size c_from c_next c_token c_value c_fault c_number c_fives c_isLeft c_wentTimes c_goes c_isLeftLaid c_game c_rows c_columns c_isFound c_bestValue c_bestBelow c_bestShare c_share c_matrix c_system c_shares c_allShares)) : ∀ (w : Nat) {x1 : Int32} {x2 : Int32} {x3 : Int32} {x4 : Int32}, F10_safeOf_b6 z w x1 x2 x3 x4 c_many c_gains = some v → xV (j10_safeOf) X 0 0 (hM c_thrown c_told c_read c_many c_eights c_gains c_notes c_seen c_turns c_drawn c_state c_tape c_taped c_size c_from c_next c_token c_value c_fault c_number c_fives c_isLeft c_wentTimes c_goes c_isLeftLaid c_game c_rows c_columns c_isFound c_bestValue c_bestBelow c_bestShare c_share c_matrix c_system c_shares c_allShares) 6 [(0, .ref 0), (1, .int x1), (2, .int x2), (3, .int x3), (4, .int x4)] [] := by
  intro w
  induction w with
  | zero => intro x1 x2 x3 x4 hf; cases hf
  | succ w ih =>
    intro x1 x2 x3 x4 hf
    unfold F10_safeOf_b6 at hf
    refine xV_iload 8 rfl dX10_safeOf_6 4 rfl ?_
    refine xV_aload_n 9 rfl dX10_safeOf_8 rfl 0 rfl ?_
    refine xV_get (v := .ref 3) 12 rfl dX10_safeOf_9 f10_24 rfl rfl ?_
    refine xV_iconst 13 rfl dX10_safeOf_12 xk_i1 ?_
    refine xV_iload_n 14 rfl dX10_safeOf_13 rfl 1 rfl ?_
    refine xV_isub 15 rfl dX10_safeOf_14 ?_
    obtain ⟨hg15, hf⟩ := xg_s hf
    refine xV_iaload 16 rfl dX10_safeOf_15 rfl (xin_ok hg15) rfl ?_
    refine xV_icmp_ge (tgt := 50) 19 rfl dX10_safeOf_16 (by decide) (fun h16 => ?_) (fun h16 => ?_)
    · have hf := xif_t hf h16
      refine xV_iload_n 51 rfl dX10_safeOf_50 rfl 3 rfl ?_
      obtain rfl := Option.some.inj hf
      exact xV_iret hX dX10_safeOf_51 rfl (Nat.zero_le _) (Nat.zero_le _)
    · have hf := xif_f hf h16
      refine xV_aload_n 20 rfl dX10_safeOf_19 rfl 0 rfl ?_
      refine xV_iload_n 21 rfl dX10_safeOf_20 rfl 1 rfl ?_
      refine xV_iload_n 22 rfl dX10_safeOf_21 rfl 2 rfl ?_
      refine xV_iload 24 rfl dX10_safeOf_22 4 rfl ?_
      obtain ⟨v24, hv24, hf⟩ := xb_s hf
      refine xV_same (rest := []) 27 rfl dX10_safeOf_24 rfl (C10_gainFor X.1.2.1 hv24) m10_gainFor v10_gainFor k10_233 rfl rfl rfl rfl rfl (Nat.le_of_ble_eq_true rfl) (Nat.le_of_ble_eq_true rfl) (Nat.le_of_ble_eq_true rfl) ⟨Nat.le_refl _, Nat.le_refl _⟩ ?_
      show xV (j10_safeOf) X 0 0 (hM c_thrown c_told c_read c_many c_eights c_gains c_notes c_seen c_turns c_drawn c_state c_tape c_taped c_size c_from c_next c_token c_value c_fault c_number c_fives c_isLeft c_wentTimes c_goes c_isLeftLaid c_game c_rows c_columns c_isFound c_bestValue c_bestBelow c_bestShare c_share c_matrix c_system c_shares c_allShares) 27 [(0, .ref 0), (1, .int x1), (2, .int x2), (3, .int x3), (4, .int x4)] [.int v24]
      refine xV_iload_n 28 rfl dX10_safeOf_27 rfl 3 rfl ?_
      refine xV_icmp_ge (tgt := 42) 31 rfl dX10_safeOf_28 (by decide) (fun h28 => ?_) (fun h28 => ?_)
      · have hf := xif_t hf h28
        refine xV_iload_n 43 rfl dX10_safeOf_42 rfl 3 rfl ?_
        refine xV_sub [0, 1, 2, 4] rfl ?_
        exact T10_safeOf_b43 hX (fun {_ _ _ _} hq => ih hq) hf
      · have hf := xif_f hf h28
        refine xV_aload_n 32 rfl dX10_safeOf_31 rfl 0 rfl ?_
        refine xV_iload_n 33 rfl dX10_safeOf_32 rfl 1 rfl ?_
        refine xV_iload_n 34 rfl dX10_safeOf_33 rfl 2 rfl ?_
        refine xV_iload 36 rfl dX10_safeOf_34 4 rfl ?_
        obtain ⟨v36, hv36, hf⟩ := xb_s hf
        refine xV_same (rest := []) 39 rfl dX10_safeOf_36 rfl (C10_gainFor X.1.2.1 hv36) m10_gainFor v10_gainFor k10_233 rfl rfl rfl rfl rfl (Nat.le_of_ble_eq_true rfl) (Nat.le_of_ble_eq_true rfl) (Nat.le_of_ble_eq_true rfl) ⟨Nat.le_refl _, Nat.le_refl _⟩ ?_
        show xV (j10_safeOf) X 0 0 (hM c_thrown c_told c_read c_many c_eights c_gains c_notes c_seen c_turns c_drawn c_state c_tape c_taped c_size c_from c_next c_token c_value c_fault c_number c_fives c_isLeft c_wentTimes c_goes c_isLeftLaid c_game c_rows c_columns c_isFound c_bestValue c_bestBelow c_bestShare c_share c_matrix c_system c_shares c_allShares) 39 [(0, .ref 0), (1, .int x1), (2, .int x2), (3, .int x3), (4, .int x4)] [.int v36]
        refine xV_goto (tgt := 43) dX10_safeOf_39 (by decide) ?_
        refine xV_sub [0, 1, 2, 4] rfl ?_
        exact T10_safeOf_b43 hX (fun {_ _ _ _} hq => ih hq) hf
def F10_safeOf (z : Nat) (x1 : Int32) (x2 : Int32) (c_many : (Nat → Int32)) (c_gains : (Nat → Int32)) : Option (Int32) :=
  F10_safeOf_b6 z z x1 x2 (1000000 : Int32) (0 : Int32) c_many c_gains
theorem T10_safeOf {X : xX} {z : Nat} {x1 : Int32} {x2 : Int32} {c_many : (Nat → Int32)} {c_gains : (Nat → Int32)} {c_thrown : Int32} {c_told : (Nat → Int32)} {c_read : (Nat → Int32)} {c_eights : (Nat → Int32)} {c_notes : (Nat → Int32)} {c_seen : (Nat → Int32)} {c_turns : (Nat → Int32)} {c_drawn : (Nat → Int32)} {c_state : Int32} {c_tape : (Nat → Int32)} {c_taped : Int32} {c_size : Int32} {c_from : Int32} {c_next : Int32} {c_token : Int32} {c_value : Int32} {c_fault : Int32} {c_number : Int32} {c_fives : (Nat → Int32)} {c_isLeft : (Nat → Int32)} {c_wentTimes : Int32} {c_goes : (Nat → Int32)} {c_isLeftLaid : Int32} {c_game : (Nat → Int32)} {c_rows : Int32} {c_columns : Int32} {c_isFound : Int32} {c_bestValue : Int64} {c_bestBelow : Int64} {c_bestShare : (Nat → Int64)} {c_share : (Nat → Int64)} {c_matrix : (Nat → Int64)} {c_system : (Nat → Int64)} {c_shares : (Nat → Int32)} {c_allShares : Int32} {v : Int32} (hX : xIs (j10_safeOf) X ((some .int)) (some (.int v)) (hM c_thrown c_told c_read c_many c_eights c_gains c_notes c_seen c_turns c_drawn c_state c_tape c_taped c_size c_from c_next c_token c_value c_fault c_number c_fives c_isLeft c_wentTimes c_goes c_isLeftLaid c_game c_rows c_columns c_isFound c_bestValue c_bestBelow c_bestShare c_share c_matrix c_system c_shares c_allShares)) (hf : F10_safeOf z x1 x2 c_many c_gains = some v) : xV (j10_safeOf) X 0 0 (hM c_thrown c_told c_read c_many c_eights c_gains c_notes c_seen c_turns c_drawn c_state c_tape c_taped c_size c_from c_next c_token c_value c_fault c_number c_fives c_isLeft c_wentTimes c_goes c_isLeftLaid c_game c_rows c_columns c_isFound c_bestValue c_bestBelow c_bestShare c_share c_matrix c_system c_shares c_allShares) 0 [(0, .ref 0), (1, .int x1), (2, .int x2)] [] := by
  unfold F10_safeOf at hf
  refine xV_ldc 2 rfl dX10_safeOf_0 q10_170 ?_
  refine xV_istore_n (L' := [(3, .int (1000000 : Int32)), (0, .ref 0), (1, .int x1), (2, .int x2)]) 3 rfl dX10_safeOf_2 rfl (xlt rfl) rfl ?_
  refine xV_iconst 4 rfl dX10_safeOf_3 xk_i0 ?_
  refine xV_istore (L' := [(4, .int (0 : Int32)), (3, .int (1000000 : Int32)), (0, .ref 0), (1, .int x1), (2, .int x2)]) 6 rfl dX10_safeOf_4 (xlt rfl) rfl ?_
  refine xV_sub [2, 3, 4, 1, 0] rfl ?_
  exact T10_safeOf_b6 hX _ hf
theorem C10_safeOf (l : Launch) {z : Nat} {x1 : Int32} {x2 : Int32} {c_many : (Nat → Int32)} {c_gains : (Nat → Int32)} {c_thrown : Int32} {c_told : (Nat → Int32)} {c_read : (Nat → Int32)} {c_eights : (Nat → Int32)} {c_notes : (Nat → Int32)} {c_seen : (Nat → Int32)} {c_turns : (Nat → Int32)} {c_drawn : (Nat → Int32)} {c_state : Int32} {c_tape : (Nat → Int32)} {c_taped : Int32} {c_size : Int32} {c_from : Int32} {c_next : Int32} {c_token : Int32} {c_value : Int32} {c_fault : Int32} {c_number : Int32} {c_fives : (Nat → Int32)} {c_isLeft : (Nat → Int32)} {c_wentTimes : Int32} {c_goes : (Nat → Int32)} {c_isLeftLaid : Int32} {c_game : (Nat → Int32)} {c_rows : Int32} {c_columns : Int32} {c_isFound : Int32} {c_bestValue : Int64} {c_bestBelow : Int64} {c_bestShare : (Nat → Int64)} {c_share : (Nat → Int64)} {c_matrix : (Nat → Int64)} {c_system : (Nat → Int64)} {c_shares : (Nat → Int32)} {c_allShares : Int32} {v : Int32} (hf : F10_safeOf z x1 x2 c_many c_gains = some v) : xCt l yX10_safeOf ((some .int)) j10_safeOf [.ref 0, .int x1, .int x2] (hM c_thrown c_told c_read c_many c_eights c_gains c_notes c_seen c_turns c_drawn c_state c_tape c_taped c_size c_from c_next c_token c_value c_fault c_number c_fives c_isLeft c_wentTimes c_goes c_isLeftLaid c_game c_rows c_columns c_isFound c_bestValue c_bestBelow c_bestShare c_share c_matrix c_system c_shares c_allShares) (some (.int v)) (hM c_thrown c_told c_read c_many c_eights c_gains c_notes c_seen c_turns c_drawn c_state c_tape c_taped c_size c_from c_next c_token c_value c_fault c_number c_fives c_isLeft c_wentTimes c_goes c_isLeftLaid c_game c_rows c_columns c_isFound c_bestValue c_bestBelow c_bestShare c_share c_matrix c_system c_shares c_allShares) := xCt_of (by decide) rfl (Nat.le_of_ble_eq_true rfl) (fun _ hX => T10_safeOf hX hf)
theorem m10_safeOf : xMd yX10_safeOf RX10 ((some .int)) j10_safeOf 2 := ⟨List.mem_of_getElem? (i := 796) (by decide +kernel), List.mem_of_getElem? (i := 5) (by decide +kernel), rfl, by decide +kernel⟩
theorem v10_safeOf : xMv yX10_safeOf RX10 := ⟨List.mem_of_getElem? (i := 794) (by decide +kernel), List.mem_of_getElem? (i := 795) (by decide +kernel)⟩
theorem k10_249 : Cond.methodLink RX10 249 yX10_safeOf ∈ wsL_law0 := List.mem_of_getElem? (i := 793) (by decide +kernel)
theorem q10_252 : Jvm.Cond.constant RX10 252 (-1000000) ∈ wsL_law0 := List.mem_of_getElem? (i := 792) (by decide +kernel)
theorem dX10_safe_0 : decode cX10_safe 0 = .ok (.aload_n 0, 1) := by decide +kernel
theorem dX10_safe_1 : decode cX10_safe 1 = .ok (.iconst 0, 1) := by decide +kernel
theorem dX10_safe_2 : decode cX10_safe 2 = .ok (.putfield 1, 3) := by decide +kernel
theorem dX10_safe_5 : decode cX10_safe 5 = .ok (.iload_n 1, 1) := by decide +kernel
theorem dX10_safe_6 : decode cX10_safe 6 = .ok (.invokestatic 105, 3) := by decide +kernel
theorem dX10_safe_9 : decode cX10_safe 9 = .ok (.ifCond .eq 17, 3) := by decide +kernel
theorem dX10_safe_12 : decode cX10_safe 12 = .ok (.iload_n 2, 1) := by decide +kernel
theorem dX10_safe_13 : decode cX10_safe 13 = .ok (.iconst (-1), 1) := by decide +kernel
theorem dX10_safe_14 : decode cX10_safe 14 = .ok (.if_icmp .eq 15, 3) := by decide +kernel
theorem dX10_safe_17 : decode cX10_safe 17 = .ok (.aload_n 0, 1) := by decide +kernel
theorem dX10_safe_18 : decode cX10_safe 18 = .ok (.iload_n 1, 1) := by decide +kernel
theorem dX10_safe_19 : decode cX10_safe 19 = .ok (.iload_n 2, 1) := by decide +kernel
theorem dX10_safe_20 : decode cX10_safe 20 = .ok (.invokevirtual 210, 3) := by decide +kernel
theorem dX10_safe_23 : decode cX10_safe 23 = .ok (.ifCond .ne 6, 3) := by decide +kernel
theorem dX10_safe_26 : decode cX10_safe 26 = .ok (.bipush (-100), 2) := by decide +kernel
theorem dX10_safe_28 : decode cX10_safe 28 = .ok (.ireturn, 1) := by decide +kernel
theorem dX10_safe_29 : decode cX10_safe 29 = .ok (.iload_n 2, 1) := by decide +kernel
theorem dX10_safe_30 : decode cX10_safe 30 = .ok (.iconst (-1), 1) := by decide +kernel
theorem dX10_safe_31 : decode cX10_safe 31 = .ok (.if_icmp .eq 10, 3) := by decide +kernel
theorem dX10_safe_34 : decode cX10_safe 34 = .ok (.aload_n 0, 1) := by decide +kernel
theorem dX10_safe_35 : decode cX10_safe 35 = .ok (.iload_n 1, 1) := by decide +kernel
theorem dX10_safe_36 : decode cX10_safe 36 = .ok (.iload_n 2, 1) := by decide +kernel
theorem dX10_safe_37 : decode cX10_safe 37 = .ok (.invokevirtual 249, 3) := by decide +kernel
theorem dX10_safe_40 : decode cX10_safe 40 = .ok (.ireturn, 1) := by decide +kernel
theorem dX10_safe_41 : decode cX10_safe 41 = .ok (.ldc 252, 2) := by decide +kernel
theorem dX10_safe_43 : decode cX10_safe 43 = .ok (.istore_n 3, 1) := by decide +kernel
theorem dX10_safe_44 : decode cX10_safe 44 = .ok (.iconst 0, 1) := by decide +kernel
theorem dX10_safe_45 : decode cX10_safe 45 = .ok (.istore 4, 2) := by decide +kernel
theorem dX10_safe_47 : decode cX10_safe 47 = .ok (.iload 4, 2) := by decide +kernel
theorem dX10_safe_49 : decode cX10_safe 49 = .ok (.aload_n 0, 1) := by decide +kernel
theorem dX10_safe_50 : decode cX10_safe 50 = .ok (.getfield 24, 3) := by decide +kernel
theorem dX10_safe_53 : decode cX10_safe 53 = .ok (.iload_n 1, 1) := by decide +kernel
theorem dX10_safe_54 : decode cX10_safe 54 = .ok (.iaload, 1) := by decide +kernel
theorem dX10_safe_55 : decode cX10_safe 55 = .ok (.if_icmp .ge 32, 3) := by decide +kernel
theorem dX10_safe_58 : decode cX10_safe 58 = .ok (.aload_n 0, 1) := by decide +kernel
theorem dX10_safe_59 : decode cX10_safe 59 = .ok (.iload_n 1, 1) := by decide +kernel
theorem dX10_safe_60 : decode cX10_safe 60 = .ok (.iload 4, 2) := by decide +kernel
theorem dX10_safe_62 : decode cX10_safe 62 = .ok (.invokevirtual 249, 3) := by decide +kernel
theorem dX10_safe_65 : decode cX10_safe 65 = .ok (.iload_n 3, 1) := by decide +kernel
theorem dX10_safe_66 : decode cX10_safe 66 = .ok (.if_icmp .le 13, 3) := by decide +kernel
theorem dX10_safe_69 : decode cX10_safe 69 = .ok (.aload_n 0, 1) := by decide +kernel
theorem dX10_safe_70 : decode cX10_safe 70 = .ok (.iload_n 1, 1) := by decide +kernel
theorem dX10_safe_71 : decode cX10_safe 71 = .ok (.iload 4, 2) := by decide +kernel
theorem dX10_safe_73 : decode cX10_safe 73 = .ok (.invokevirtual 249, 3) := by decide +kernel
theorem dX10_safe_76 : decode cX10_safe 76 = .ok (.goto 4, 3) := by decide +kernel
theorem dX10_safe_79 : decode cX10_safe 79 = .ok (.iload_n 3, 1) := by decide +kernel
theorem dX10_safe_80 : decode cX10_safe 80 = .ok (.istore_n 3, 1) := by decide +kernel
theorem dX10_safe_81 : decode cX10_safe 81 = .ok (.iinc 4 1, 3) := by decide +kernel
theorem dX10_safe_84 : decode cX10_safe 84 = .ok (.goto (-37), 3) := by decide +kernel
theorem dX10_safe_87 : decode cX10_safe 87 = .ok (.iload_n 3, 1) := by decide +kernel
theorem dX10_safe_88 : decode cX10_safe 88 = .ok (.ireturn, 1) := by decide +kernel
abbrev j10_safe : xJ := (cX10_safe, 5, RX10, 4, 0, 0)
def F10_safe_b80 (z : Nat) (x1 : Int32) (x4 : Int32) (s0 : Int32) (c_thrown : Int32) (c_many : (Nat → Int32)) (c_gains : (Nat → Int32)) (k47 : Int32 → Int32 → Int32 → Int32 → (Nat → Int32) → (Nat → Int32) → Option (Int32 × Int32)) : Option (Int32 × Int32) :=
  k47 x1 s0 (x4 + (1 : Int32)) c_thrown c_many c_gains
theorem T10_safe_b80 {X : xX} {c_told : (Nat → Int32)} {c_read : (Nat → Int32)} {c_eights : (Nat → Int32)} {c_notes : (Nat → Int32)} {c_seen : (Nat → Int32)} {c_turns : (Nat → Int32)} {c_drawn : (Nat → Int32)} {c_state : Int32} {c_tape : (Nat → Int32)} {c_taped : Int32} {c_size : Int32} {c_from : Int32} {c_next : Int32} {c_token : Int32} {c_value : Int32} {c_fault : Int32} {c_number : Int32} {c_fives : (Nat → Int32)} {c_isLeft : (Nat → Int32)} {c_wentTimes : Int32} {c_goes : (Nat → Int32)} {c_isLeftLaid : Int32} {c_game : (Nat → Int32)} {c_rows : Int32} {c_columns : Int32} {c_isFound : Int32} {c_bestValue : Int64} {c_bestBelow : Int64} {c_bestShare : (Nat → Int64)} {c_share : (Nat → Int64)} {c_matrix : (Nat → Int64)} {c_system : (Nat → Int64)} {c_shares : (Nat → Int32)} {c_allShares : Int32} {x1 : Int32} {x4 : Int32} {s0 : Int32} {c_thrown : Int32} {c_many : (Nat → Int32)} {c_gains : (Nat → Int32)} {z : Nat} {v : Int32 × Int32} {k47 : Int32 → Int32 → Int32 → Int32 → (Nat → Int32) → (Nat → Int32) → Option (Int32 × Int32)} (hX : xIs (j10_safe) X ((some .int)) (some (.int v.1)) (hM v.2 c_told c_read c_many c_eights c_gains c_notes c_seen c_turns c_drawn c_state c_tape c_taped c_size c_from c_next c_token c_value c_fault c_number c_fives c_isLeft c_wentTimes c_goes c_isLeftLaid c_game c_rows c_columns c_isFound c_bestValue c_bestBelow c_bestShare c_share c_matrix c_system c_shares c_allShares)) (hk47 : ∀ {x1 : Int32} {x3 : Int32} {x4 : Int32} {c_thrown : Int32}, k47 x1 x3 x4 c_thrown c_many c_gains = some v → xV (j10_safe) X 0 0 (hM c_thrown c_told c_read c_many c_eights c_gains c_notes c_seen c_turns c_drawn c_state c_tape c_taped c_size c_from c_next c_token c_value c_fault c_number c_fives c_isLeft c_wentTimes c_goes c_isLeftLaid c_game c_rows c_columns c_isFound c_bestValue c_bestBelow c_bestShare c_share c_matrix c_system c_shares c_allShares) 47 [(0, .ref 0), (1, .int x1), (3, .int x3), (4, .int x4)] []) (hf : F10_safe_b80 z x1 x4 s0 c_thrown c_many c_gains k47 = some v) : xV (j10_safe) X 0 0 (hM c_thrown c_told c_read c_many c_eights c_gains c_notes c_seen c_turns c_drawn c_state c_tape c_taped c_size c_from c_next c_token c_value c_fault c_number c_fives c_isLeft c_wentTimes c_goes c_isLeftLaid c_game c_rows c_columns c_isFound c_bestValue c_bestBelow c_bestShare c_share c_matrix c_system c_shares c_allShares) 80 [(0, .ref 0), (1, .int x1), (4, .int x4)] [.int s0] := by
  unfold F10_safe_b80 at hf
  refine xV_istore_n (L' := [(3, .int s0), (0, .ref 0), (1, .int x1), (4, .int x4)]) 81 rfl dX10_safe_80 rfl (xlt rfl) rfl ?_
  refine xV_iinc (L' := [(4, .int (x4 + (1 : Int32))), (3, .int s0), (0, .ref 0), (1, .int x1)]) 84 rfl dX10_safe_81 3 rfl (xk_inc xk_i1) (xlt rfl) rfl ?_
  refine xV_goto (tgt := 47) dX10_safe_84 (by decide) ?_
  refine xV_sub [2, 3, 1, 0] rfl ?_
  exact hk47 hf
def F10_safe_b47 (z : Nat) (w : Nat) (x1 : Int32) (x3 : Int32) (x4 : Int32) (c_thrown : Int32) (c_many : (Nat → Int32)) (c_gains : (Nat → Int32)) : Option (Int32 × Int32) := match w with
  | 0 => none
  | w + 1 => xg (xin x1 2) (if (c_many (xn x1)) ≤ x4 then (some (x3, c_thrown)) else ((F10_safeOf z x1 x4 c_many c_gains).bind (fun v62 => if v62 ≤ x3 then (F10_safe_b80 z x1 x4 x3 c_thrown c_many c_gains (fun q0 q1 q2 q3 q4 q5 => F10_safe_b47 z w q0 q1 q2 q3 q4 q5)) else ((F10_safeOf z x1 x4 c_many c_gains).bind (fun v73 => F10_safe_b80 z x1 x4 v73 c_thrown c_many c_gains (fun q0 q1 q2 q3 q4 q5 => F10_safe_b47 z w q0 q1 q2 q3 q4 q5))))))
theorem T10_safe_b47 {X : xX} {c_told : (Nat → Int32)} {c_read : (Nat → Int32)} {c_many : (Nat → Int32)} {c_eights : (Nat → Int32)} {c_gains : (Nat → Int32)} {c_notes : (Nat → Int32)} {c_seen : (Nat → Int32)} {c_turns : (Nat → Int32)} {c_drawn : (Nat → Int32)} {c_state : Int32} {c_tape : (Nat → Int32)} {c_taped : Int32} {c_size : Int32} {c_from : Int32} {c_next : Int32} {c_token : Int32} {c_value : Int32} {c_fault : Int32} {c_number : Int32} {c_fives : (Nat → Int32)} {c_isLeft : (Nat → Int32)} {c_wentTimes : Int32} {c_goes : (Nat → Int32)} {c_isLeftLaid : Int32} {c_game : (Nat → Int32)} {c_rows : Int32} {c_columns : Int32} {c_isFound : Int32} {c_bestValue : Int64} {c_bestBelow : Int64} {c_bestShare : (Nat → Int64)} {c_share : (Nat → Int64)} {c_matrix : (Nat → Int64)} {c_system : (Nat → Int64)} {c_shares : (Nat → Int32)} {c_allShares : Int32} {z : Nat} {v : Int32 × Int32} (hX : xIs (j10_safe) X ((some .int)) (some (.int v.1)) (hM v.2 c_told c_read c_many c_eights c_gains c_notes c_seen c_turns c_drawn c_state c_tape c_taped c_size c_from c_next c_token c_value c_fault c_number c_fives c_isLeft c_wentTimes c_goes c_isLeftLaid c_game c_rows c_columns c_isFound c_bestValue c_bestBelow c_bestShare c_share c_matrix c_system c_shares c_allShares)) : ∀ (w : Nat) {x1 : Int32} {x3 : Int32} {x4 : Int32} {c_thrown : Int32}, F10_safe_b47 z w x1 x3 x4 c_thrown c_many c_gains = some v → xV (j10_safe) X 0 0 (hM c_thrown c_told c_read c_many c_eights c_gains c_notes c_seen c_turns c_drawn c_state c_tape c_taped c_size c_from c_next c_token c_value c_fault c_number c_fives c_isLeft c_wentTimes c_goes c_isLeftLaid c_game c_rows c_columns c_isFound c_bestValue c_bestBelow c_bestShare c_share c_matrix c_system c_shares c_allShares) 47 [(0, .ref 0), (1, .int x1), (3, .int x3), (4, .int x4)] [] := by
  intro w
  induction w with
  | zero => intro x1 x3 x4 c_thrown hf; cases hf
  | succ w ih =>
    intro x1 x3 x4 c_thrown hf
    unfold F10_safe_b47 at hf
    refine xV_iload 49 rfl dX10_safe_47 3 rfl ?_
    refine xV_aload_n 50 rfl dX10_safe_49 rfl 0 rfl ?_
    refine xV_get (v := .ref 3) 53 rfl dX10_safe_50 f10_24 rfl rfl ?_
    refine xV_iload_n 54 rfl dX10_safe_53 rfl 1 rfl ?_
    obtain ⟨hg54, hf⟩ := xg_s hf
    refine xV_iaload 55 rfl dX10_safe_54 rfl (xin_ok hg54) rfl ?_
    refine xV_icmp_ge (tgt := 87) 58 rfl dX10_safe_55 (by decide) (fun h55 => ?_) (fun h55 => ?_)
    · have hf := xif_t hf h55
      refine xV_iload_n 88 rfl dX10_safe_87 rfl 2 rfl ?_
      obtain rfl := Option.some.inj hf
      exact xV_iret hX dX10_safe_88 rfl (Nat.zero_le _) (Nat.zero_le _)
    · have hf := xif_f hf h55
      refine xV_aload_n 59 rfl dX10_safe_58 rfl 0 rfl ?_
      refine xV_iload_n 60 rfl dX10_safe_59 rfl 1 rfl ?_
      refine xV_iload 62 rfl dX10_safe_60 3 rfl ?_
      obtain ⟨v62, hv62, hf⟩ := xb_s hf
      refine xV_same (rest := []) 65 rfl dX10_safe_62 rfl (C10_safeOf X.1.2.1 hv62) m10_safeOf v10_safeOf k10_249 rfl rfl rfl rfl rfl (Nat.le_of_ble_eq_true rfl) (Nat.le_of_ble_eq_true rfl) (Nat.le_of_ble_eq_true rfl) ⟨Nat.le_refl _, Nat.le_refl _⟩ ?_
      show xV (j10_safe) X 0 0 (hM c_thrown c_told c_read c_many c_eights c_gains c_notes c_seen c_turns c_drawn c_state c_tape c_taped c_size c_from c_next c_token c_value c_fault c_number c_fives c_isLeft c_wentTimes c_goes c_isLeftLaid c_game c_rows c_columns c_isFound c_bestValue c_bestBelow c_bestShare c_share c_matrix c_system c_shares c_allShares) 65 [(0, .ref 0), (1, .int x1), (3, .int x3), (4, .int x4)] [.int v62]
      refine xV_iload_n 66 rfl dX10_safe_65 rfl 2 rfl ?_
      refine xV_icmp_le (tgt := 79) 69 rfl dX10_safe_66 (by decide) (fun h66 => ?_) (fun h66 => ?_)
      · have hf := xif_t hf h66
        refine xV_iload_n 80 rfl dX10_safe_79 rfl 2 rfl ?_
        refine xV_sub [0, 1, 3] rfl ?_
        exact T10_safe_b80 hX (fun {_ _ _ _} hq => ih hq) hf
      · have hf := xif_f hf h66
        refine xV_aload_n 70 rfl dX10_safe_69 rfl 0 rfl ?_
        refine xV_iload_n 71 rfl dX10_safe_70 rfl 1 rfl ?_
        refine xV_iload 73 rfl dX10_safe_71 3 rfl ?_
        obtain ⟨v73, hv73, hf⟩ := xb_s hf
        refine xV_same (rest := []) 76 rfl dX10_safe_73 rfl (C10_safeOf X.1.2.1 hv73) m10_safeOf v10_safeOf k10_249 rfl rfl rfl rfl rfl (Nat.le_of_ble_eq_true rfl) (Nat.le_of_ble_eq_true rfl) (Nat.le_of_ble_eq_true rfl) ⟨Nat.le_refl _, Nat.le_refl _⟩ ?_
        show xV (j10_safe) X 0 0 (hM c_thrown c_told c_read c_many c_eights c_gains c_notes c_seen c_turns c_drawn c_state c_tape c_taped c_size c_from c_next c_token c_value c_fault c_number c_fives c_isLeft c_wentTimes c_goes c_isLeftLaid c_game c_rows c_columns c_isFound c_bestValue c_bestBelow c_bestShare c_share c_matrix c_system c_shares c_allShares) 76 [(0, .ref 0), (1, .int x1), (3, .int x3), (4, .int x4)] [.int v73]
        refine xV_goto (tgt := 80) dX10_safe_76 (by decide) ?_
        refine xV_sub [0, 1, 3] rfl ?_
        exact T10_safe_b80 hX (fun {_ _ _ _} hq => ih hq) hf
def F10_safe_b29 (z : Nat) (x1 : Int32) (x2 : Int32) (c_thrown : Int32) (c_many : (Nat → Int32)) (c_gains : (Nat → Int32)) : Option (Int32 × Int32) :=
  if x2 = (-1 : Int32) then (F10_safe_b47 z z x1 (-1000000 : Int32) (0 : Int32) c_thrown c_many c_gains) else ((F10_safeOf z x1 x2 c_many c_gains).bind (fun v37 => some (v37, c_thrown)))
theorem T10_safe_b29 {X : xX} {c_told : (Nat → Int32)} {c_read : (Nat → Int32)} {c_eights : (Nat → Int32)} {c_notes : (Nat → Int32)} {c_seen : (Nat → Int32)} {c_turns : (Nat → Int32)} {c_drawn : (Nat → Int32)} {c_state : Int32} {c_tape : (Nat → Int32)} {c_taped : Int32} {c_size : Int32} {c_from : Int32} {c_next : Int32} {c_token : Int32} {c_value : Int32} {c_fault : Int32} {c_number : Int32} {c_fives : (Nat → Int32)} {c_isLeft : (Nat → Int32)} {c_wentTimes : Int32} {c_goes : (Nat → Int32)} {c_isLeftLaid : Int32} {c_game : (Nat → Int32)} {c_rows : Int32} {c_columns : Int32} {c_isFound : Int32} {c_bestValue : Int64} {c_bestBelow : Int64} {c_bestShare : (Nat → Int64)} {c_share : (Nat → Int64)} {c_matrix : (Nat → Int64)} {c_system : (Nat → Int64)} {c_shares : (Nat → Int32)} {c_allShares : Int32} {x1 : Int32} {x2 : Int32} {c_thrown : Int32} {c_many : (Nat → Int32)} {c_gains : (Nat → Int32)} {z : Nat} {v : Int32 × Int32} (hX : xIs (j10_safe) X ((some .int)) (some (.int v.1)) (hM v.2 c_told c_read c_many c_eights c_gains c_notes c_seen c_turns c_drawn c_state c_tape c_taped c_size c_from c_next c_token c_value c_fault c_number c_fives c_isLeft c_wentTimes c_goes c_isLeftLaid c_game c_rows c_columns c_isFound c_bestValue c_bestBelow c_bestShare c_share c_matrix c_system c_shares c_allShares)) (hf : F10_safe_b29 z x1 x2 c_thrown c_many c_gains = some v) : xV (j10_safe) X 0 0 (hM c_thrown c_told c_read c_many c_eights c_gains c_notes c_seen c_turns c_drawn c_state c_tape c_taped c_size c_from c_next c_token c_value c_fault c_number c_fives c_isLeft c_wentTimes c_goes c_isLeftLaid c_game c_rows c_columns c_isFound c_bestValue c_bestBelow c_bestShare c_share c_matrix c_system c_shares c_allShares) 29 [(0, .ref 0), (1, .int x1), (2, .int x2)] [] := by
  unfold F10_safe_b29 at hf
  refine xV_iload_n 30 rfl dX10_safe_29 rfl 2 rfl ?_
  refine xV_iconst 31 rfl dX10_safe_30 xk_im1 ?_
  refine xV_icmp_eq (tgt := 41) 34 rfl dX10_safe_31 (by decide) (fun h31 => ?_) (fun h31 => ?_)
  · have hf := xif_t hf h31
    refine xV_ldc 43 rfl dX10_safe_41 q10_252 ?_
    refine xV_istore_n (L' := [(3, .int (-1000000 : Int32)), (0, .ref 0), (1, .int x1), (2, .int x2)]) 44 rfl dX10_safe_43 rfl (xlt rfl) rfl ?_
    refine xV_iconst 45 rfl dX10_safe_44 xk_i0 ?_
    refine xV_istore (L' := [(4, .int (0 : Int32)), (3, .int (-1000000 : Int32)), (0, .ref 0), (1, .int x1), (2, .int x2)]) 47 rfl dX10_safe_45 (xlt rfl) rfl ?_
    refine xV_sub [2, 3, 1, 0] rfl ?_
    exact T10_safe_b47 hX _ hf
  · have hf := xif_f hf h31
    refine xV_aload_n 35 rfl dX10_safe_34 rfl 0 rfl ?_
    refine xV_iload_n 36 rfl dX10_safe_35 rfl 1 rfl ?_
    refine xV_iload_n 37 rfl dX10_safe_36 rfl 2 rfl ?_
    obtain ⟨v37, hv37, hf⟩ := xb_s hf
    refine xV_same (rest := []) 40 rfl dX10_safe_37 rfl (C10_safeOf X.1.2.1 hv37) m10_safeOf v10_safeOf k10_249 rfl rfl rfl rfl rfl (Nat.le_of_ble_eq_true rfl) (Nat.le_of_ble_eq_true rfl) (Nat.le_of_ble_eq_true rfl) ⟨Nat.le_refl _, Nat.le_refl _⟩ ?_
    show xV (j10_safe) X 0 0 (hM c_thrown c_told c_read c_many c_eights c_gains c_notes c_seen c_turns c_drawn c_state c_tape c_taped c_size c_from c_next c_token c_value c_fault c_number c_fives c_isLeft c_wentTimes c_goes c_isLeftLaid c_game c_rows c_columns c_isFound c_bestValue c_bestBelow c_bestShare c_share c_matrix c_system c_shares c_allShares) 40 [(0, .ref 0), (1, .int x1), (2, .int x2)] [.int v37]
    obtain rfl := Option.some.inj hf
    exact xV_iret hX dX10_safe_40 rfl (Nat.zero_le _) (Nat.zero_le _)
def F10_safe (z : Nat) (x1 : Int32) (x2 : Int32) (c_thrown : Int32) (c_many : (Nat → Int32)) (c_gains : (Nat → Int32)) : Option (Int32 × Int32) :=
  (F10_isSide x1).bind (fun v6 => if v6 = 0 then (some ((-100 : Int32), (0 : Int32))) else (if x2 = (-1 : Int32) then (F10_safe_b29 z x1 x2 (0 : Int32) c_many c_gains) else ((F10_isSplit x1 x2 c_many).bind (fun v20 => if v20 = 0 then (some ((-100 : Int32), (0 : Int32))) else (F10_safe_b29 z x1 x2 (0 : Int32) c_many c_gains)))))
theorem T10_safe {X : xX} {z : Nat} {x1 : Int32} {x2 : Int32} {c_thrown : Int32} {c_many : (Nat → Int32)} {c_gains : (Nat → Int32)} {c_told : (Nat → Int32)} {c_read : (Nat → Int32)} {c_eights : (Nat → Int32)} {c_notes : (Nat → Int32)} {c_seen : (Nat → Int32)} {c_turns : (Nat → Int32)} {c_drawn : (Nat → Int32)} {c_state : Int32} {c_tape : (Nat → Int32)} {c_taped : Int32} {c_size : Int32} {c_from : Int32} {c_next : Int32} {c_token : Int32} {c_value : Int32} {c_fault : Int32} {c_number : Int32} {c_fives : (Nat → Int32)} {c_isLeft : (Nat → Int32)} {c_wentTimes : Int32} {c_goes : (Nat → Int32)} {c_isLeftLaid : Int32} {c_game : (Nat → Int32)} {c_rows : Int32} {c_columns : Int32} {c_isFound : Int32} {c_bestValue : Int64} {c_bestBelow : Int64} {c_bestShare : (Nat → Int64)} {c_share : (Nat → Int64)} {c_matrix : (Nat → Int64)} {c_system : (Nat → Int64)} {c_shares : (Nat → Int32)} {c_allShares : Int32} {v : Int32 × Int32} (hX : xIs (j10_safe) X ((some .int)) (some (.int v.1)) (hM v.2 c_told c_read c_many c_eights c_gains c_notes c_seen c_turns c_drawn c_state c_tape c_taped c_size c_from c_next c_token c_value c_fault c_number c_fives c_isLeft c_wentTimes c_goes c_isLeftLaid c_game c_rows c_columns c_isFound c_bestValue c_bestBelow c_bestShare c_share c_matrix c_system c_shares c_allShares)) (hf : F10_safe z x1 x2 c_thrown c_many c_gains = some v) : xV (j10_safe) X 0 0 (hM c_thrown c_told c_read c_many c_eights c_gains c_notes c_seen c_turns c_drawn c_state c_tape c_taped c_size c_from c_next c_token c_value c_fault c_number c_fives c_isLeft c_wentTimes c_goes c_isLeftLaid c_game c_rows c_columns c_isFound c_bestValue c_bestBelow c_bestShare c_share c_matrix c_system c_shares c_allShares) 0 [(0, .ref 0), (1, .int x1), (2, .int x2)] [] := by
  unfold F10_safe at hf
  refine xV_aload_n 1 rfl dX10_safe_0 rfl 0 rfl ?_
  refine xV_iconst 2 rfl dX10_safe_1 xk_i0 ?_
  refine xV_put (h' := (hM (0 : Int32) c_told c_read c_many c_eights c_gains c_notes c_seen c_turns c_drawn c_state c_tape c_taped c_size c_from c_next c_token c_value c_fault c_number c_fives c_isLeft c_wentTimes c_goes c_isLeftLaid c_game c_rows c_columns c_isFound c_bestValue c_bestBelow c_bestShare c_share c_matrix c_system c_shares c_allShares)) 5 rfl dX10_safe_2 f10_1 rfl nf10_0 (fun _ => rfl) (fun _ => rfl) (Nat.le_of_ble_eq_true rfl) rfl ?_
  refine xV_iload_n 6 rfl dX10_safe_5 rfl 1 rfl ?_
  obtain ⟨v6, hv6, hf⟩ := xb_s hf
  refine xV_st0 (rest := []) 9 rfl dX10_safe_6 rfl (C10_isSide X.1.2.1 hv6) m10_isSide s10_isSide k10_105 rfl (Nat.le_of_ble_eq_true rfl) (Nat.le_of_ble_eq_true rfl) (Nat.le_of_ble_eq_true rfl) ⟨Nat.le_refl _, Nat.le_refl _⟩ ?_
  show xV (j10_safe) X 0 0 (hM (0 : Int32) c_told c_read c_many c_eights c_gains c_notes c_seen c_turns c_drawn c_state c_tape c_taped c_size c_from c_next c_token c_value c_fault c_number c_fives c_isLeft c_wentTimes c_goes c_isLeftLaid c_game c_rows c_columns c_isFound c_bestValue c_bestBelow c_bestShare c_share c_matrix c_system c_shares c_allShares) 9 [(0, .ref 0), (1, .int x1), (2, .int x2)] [.int v6]
  refine xV_if_eq (tgt := 26) 12 rfl dX10_safe_9 (by decide) (fun h9 => ?_) (fun h9 => ?_)
  · have hf := xif_t hf h9
    refine xV_bipush 28 rfl dX10_safe_26 xk_bm100 ?_
    obtain rfl := Option.some.inj hf
    exact xV_iret hX dX10_safe_28 rfl (Nat.zero_le _) (Nat.zero_le _)
  · have hf := xif_f hf h9
    refine xV_iload_n 13 rfl dX10_safe_12 rfl 2 rfl ?_
    refine xV_iconst 14 rfl dX10_safe_13 xk_im1 ?_
    refine xV_icmp_eq (tgt := 29) 17 rfl dX10_safe_14 (by decide) (fun h14 => ?_) (fun h14 => ?_)
    · have hf := xif_t hf h14
      exact T10_safe_b29 hX hf
    · have hf := xif_f hf h14
      refine xV_aload_n 18 rfl dX10_safe_17 rfl 0 rfl ?_
      refine xV_iload_n 19 rfl dX10_safe_18 rfl 1 rfl ?_
      refine xV_iload_n 20 rfl dX10_safe_19 rfl 2 rfl ?_
      obtain ⟨v20, hv20, hf⟩ := xb_s hf
      refine xV_same (rest := []) 23 rfl dX10_safe_20 rfl (C10_isSplit X.1.2.1 hv20) m10_isSplit v10_isSplit k10_210 rfl rfl rfl rfl rfl (Nat.le_of_ble_eq_true rfl) (Nat.le_of_ble_eq_true rfl) (Nat.le_of_ble_eq_true rfl) ⟨Nat.le_refl _, Nat.le_refl _⟩ ?_
      show xV (j10_safe) X 0 0 (hM (0 : Int32) c_told c_read c_many c_eights c_gains c_notes c_seen c_turns c_drawn c_state c_tape c_taped c_size c_from c_next c_token c_value c_fault c_number c_fives c_isLeft c_wentTimes c_goes c_isLeftLaid c_game c_rows c_columns c_isFound c_bestValue c_bestBelow c_bestShare c_share c_matrix c_system c_shares c_allShares) 23 [(0, .ref 0), (1, .int x1), (2, .int x2)] [.int v20]
      refine xV_if_ne (tgt := 29) 26 rfl dX10_safe_23 (by decide) (fun h23 => ?_) (fun h23 => ?_)
      · have hf := xif_f hf h23
        exact T10_safe_b29 hX hf
      · have hf := xif_t hf h23
        refine xV_bipush 28 rfl dX10_safe_26 xk_bm100 ?_
        obtain rfl := Option.some.inj hf
        exact xV_iret hX dX10_safe_28 rfl (Nat.zero_le _) (Nat.zero_le _)
theorem C10_safe (l : Launch) {z : Nat} {x1 : Int32} {x2 : Int32} {c_thrown : Int32} {c_many : (Nat → Int32)} {c_gains : (Nat → Int32)} {c_told : (Nat → Int32)} {c_read : (Nat → Int32)} {c_eights : (Nat → Int32)} {c_notes : (Nat → Int32)} {c_seen : (Nat → Int32)} {c_turns : (Nat → Int32)} {c_drawn : (Nat → Int32)} {c_state : Int32} {c_tape : (Nat → Int32)} {c_taped : Int32} {c_size : Int32} {c_from : Int32} {c_next : Int32} {c_token : Int32} {c_value : Int32} {c_fault : Int32} {c_number : Int32} {c_fives : (Nat → Int32)} {c_isLeft : (Nat → Int32)} {c_wentTimes : Int32} {c_goes : (Nat → Int32)} {c_isLeftLaid : Int32} {c_game : (Nat → Int32)} {c_rows : Int32} {c_columns : Int32} {c_isFound : Int32} {c_bestValue : Int64} {c_bestBelow : Int64} {c_bestShare : (Nat → Int64)} {c_share : (Nat → Int64)} {c_matrix : (Nat → Int64)} {c_system : (Nat → Int64)} {c_shares : (Nat → Int32)} {c_allShares : Int32} {v : Int32 × Int32} (hf : F10_safe z x1 x2 c_thrown c_many c_gains = some v) : xCt l yX10_safe ((some .int)) j10_safe [.ref 0, .int x1, .int x2] (hM c_thrown c_told c_read c_many c_eights c_gains c_notes c_seen c_turns c_drawn c_state c_tape c_taped c_size c_from c_next c_token c_value c_fault c_number c_fives c_isLeft c_wentTimes c_goes c_isLeftLaid c_game c_rows c_columns c_isFound c_bestValue c_bestBelow c_bestShare c_share c_matrix c_system c_shares c_allShares) (some (.int v.1)) (hM v.2 c_told c_read c_many c_eights c_gains c_notes c_seen c_turns c_drawn c_state c_tape c_taped c_size c_from c_next c_token c_value c_fault c_number c_fives c_isLeft c_wentTimes c_goes c_isLeftLaid c_game c_rows c_columns c_isFound c_bestValue c_bestBelow c_bestShare c_share c_matrix c_system c_shares c_allShares) := xCt_of (by decide) rfl (Nat.le_of_ble_eq_true rfl) (fun _ hX => T10_safe hX hf)
theorem m10_safe : xMd yX10_safe RX10 ((some .int)) j10_safe 2 := ⟨List.mem_of_getElem? (i := 791) (by decide +kernel), List.mem_of_getElem? (i := 5) (by decide +kernel), rfl, by decide +kernel⟩
theorem v10_safe : xMv yX10_safe RX10 := ⟨List.mem_of_getElem? (i := 789) (by decide +kernel), List.mem_of_getElem? (i := 790) (by decide +kernel)⟩
theorem dX10_bookAt_0 : decode cX10_bookAt 0 = .ok (.aload_n 0, 1) := by decide +kernel
theorem dX10_bookAt_1 : decode cX10_bookAt 1 = .ok (.iload_n 1, 1) := by decide +kernel
theorem dX10_bookAt_2 : decode cX10_bookAt 2 = .ok (.aload_n 0, 1) := by decide +kernel
theorem dX10_bookAt_3 : decode cX10_bookAt 3 = .ok (.getfield 17, 3) := by decide +kernel
theorem dX10_bookAt_6 : decode cX10_bookAt 6 = .ok (.iload_n 1, 1) := by decide +kernel
theorem dX10_bookAt_7 : decode cX10_bookAt 7 = .ok (.iconst 1, 1) := by decide +kernel
theorem dX10_bookAt_8 : decode cX10_bookAt 8 = .ok (.invokestatic 109, 3) := by decide +kernel
theorem dX10_bookAt_11 : decode cX10_bookAt 11 = .ok (.iload_n 2, 1) := by decide +kernel
theorem dX10_bookAt_12 : decode cX10_bookAt 12 = .ok (.iadd, 1) := by decide +kernel
theorem dX10_bookAt_13 : decode cX10_bookAt 13 = .ok (.iaload, 1) := by decide +kernel
theorem dX10_bookAt_14 : decode cX10_bookAt 14 = .ok (.invokevirtual 213, 3) := by decide +kernel
theorem dX10_bookAt_17 : decode cX10_bookAt 17 = .ok (.ireturn, 1) := by decide +kernel
abbrev j10_bookAt : xJ := (cX10_bookAt, 3, RX10, 3, 0, 0)
def F10_bookAt (z : Nat) (x1 : Int32) (x2 : Int32) (c_told : (Nat → Int32)) (c_many : (Nat → Int32)) (c_eights : (Nat → Int32)) : Option (Int32) :=
  (F10_at x1 (1 : Int32)).bind (fun v8 => xg (xin (v8 + x2) 56) ((F10_numberOf z x1 (c_told (xn (v8 + x2))) c_many c_eights).bind (fun v14 => some (v14))))
theorem T10_bookAt {X : xX} {z : Nat} {x1 : Int32} {x2 : Int32} {c_told : (Nat → Int32)} {c_many : (Nat → Int32)} {c_eights : (Nat → Int32)} {c_thrown : Int32} {c_read : (Nat → Int32)} {c_gains : (Nat → Int32)} {c_notes : (Nat → Int32)} {c_seen : (Nat → Int32)} {c_turns : (Nat → Int32)} {c_drawn : (Nat → Int32)} {c_state : Int32} {c_tape : (Nat → Int32)} {c_taped : Int32} {c_size : Int32} {c_from : Int32} {c_next : Int32} {c_token : Int32} {c_value : Int32} {c_fault : Int32} {c_number : Int32} {c_fives : (Nat → Int32)} {c_isLeft : (Nat → Int32)} {c_wentTimes : Int32} {c_goes : (Nat → Int32)} {c_isLeftLaid : Int32} {c_game : (Nat → Int32)} {c_rows : Int32} {c_columns : Int32} {c_isFound : Int32} {c_bestValue : Int64} {c_bestBelow : Int64} {c_bestShare : (Nat → Int64)} {c_share : (Nat → Int64)} {c_matrix : (Nat → Int64)} {c_system : (Nat → Int64)} {c_shares : (Nat → Int32)} {c_allShares : Int32} {v : Int32} (hX : xIs (j10_bookAt) X ((some .int)) (some (.int v)) (hM c_thrown c_told c_read c_many c_eights c_gains c_notes c_seen c_turns c_drawn c_state c_tape c_taped c_size c_from c_next c_token c_value c_fault c_number c_fives c_isLeft c_wentTimes c_goes c_isLeftLaid c_game c_rows c_columns c_isFound c_bestValue c_bestBelow c_bestShare c_share c_matrix c_system c_shares c_allShares)) (hf : F10_bookAt z x1 x2 c_told c_many c_eights = some v) : xV (j10_bookAt) X 0 0 (hM c_thrown c_told c_read c_many c_eights c_gains c_notes c_seen c_turns c_drawn c_state c_tape c_taped c_size c_from c_next c_token c_value c_fault c_number c_fives c_isLeft c_wentTimes c_goes c_isLeftLaid c_game c_rows c_columns c_isFound c_bestValue c_bestBelow c_bestShare c_share c_matrix c_system c_shares c_allShares) 0 [(0, .ref 0), (1, .int x1), (2, .int x2)] [] := by
  unfold F10_bookAt at hf
  refine xV_aload_n 1 rfl dX10_bookAt_0 rfl 0 rfl ?_
  refine xV_iload_n 2 rfl dX10_bookAt_1 rfl 1 rfl ?_
  refine xV_aload_n 3 rfl dX10_bookAt_2 rfl 0 rfl ?_
  refine xV_get (v := .ref 1) 6 rfl dX10_bookAt_3 f10_17 rfl rfl ?_
  refine xV_iload_n 7 rfl dX10_bookAt_6 rfl 1 rfl ?_
  refine xV_iconst 8 rfl dX10_bookAt_7 xk_i1 ?_
  obtain ⟨v8, hv8, hf⟩ := xb_s hf
  refine xV_st0 (rest := [.ref 1, .int x1, .ref 0]) 11 rfl dX10_bookAt_8 rfl (C10_at X.1.2.1 hv8) m10_at s10_at k10_109 rfl (Nat.le_of_ble_eq_true rfl) (Nat.le_of_ble_eq_true rfl) (Nat.le_of_ble_eq_true rfl) ⟨Nat.le_refl _, Nat.le_refl _⟩ ?_
  show xV (j10_bookAt) X 0 0 (hM c_thrown c_told c_read c_many c_eights c_gains c_notes c_seen c_turns c_drawn c_state c_tape c_taped c_size c_from c_next c_token c_value c_fault c_number c_fives c_isLeft c_wentTimes c_goes c_isLeftLaid c_game c_rows c_columns c_isFound c_bestValue c_bestBelow c_bestShare c_share c_matrix c_system c_shares c_allShares) 11 [(0, .ref 0), (1, .int x1), (2, .int x2)] [.int v8, .ref 1, .int x1, .ref 0]
  refine xV_iload_n 12 rfl dX10_bookAt_11 rfl 2 rfl ?_
  refine xV_iadd 13 rfl dX10_bookAt_12 ?_
  obtain ⟨hg13, hf⟩ := xg_s hf
  refine xV_iaload 14 rfl dX10_bookAt_13 rfl (xin_ok hg13) rfl ?_
  obtain ⟨v14, hv14, hf⟩ := xb_s hf
  refine xV_same (rest := []) 17 rfl dX10_bookAt_14 rfl (C10_numberOf X.1.2.1 hv14) m10_numberOf v10_numberOf k10_213 rfl rfl rfl rfl rfl (Nat.le_of_ble_eq_true rfl) (Nat.le_of_ble_eq_true rfl) (Nat.le_of_ble_eq_true rfl) ⟨Nat.le_refl _, Nat.le_refl _⟩ ?_
  show xV (j10_bookAt) X 0 0 (hM c_thrown c_told c_read c_many c_eights c_gains c_notes c_seen c_turns c_drawn c_state c_tape c_taped c_size c_from c_next c_token c_value c_fault c_number c_fives c_isLeft c_wentTimes c_goes c_isLeftLaid c_game c_rows c_columns c_isFound c_bestValue c_bestBelow c_bestShare c_share c_matrix c_system c_shares c_allShares) 17 [(0, .ref 0), (1, .int x1), (2, .int x2)] [.int v14]
  obtain rfl := Option.some.inj hf
  exact xV_iret hX dX10_bookAt_17 rfl (Nat.zero_le _) (Nat.zero_le _)
theorem C10_bookAt (l : Launch) {z : Nat} {x1 : Int32} {x2 : Int32} {c_told : (Nat → Int32)} {c_many : (Nat → Int32)} {c_eights : (Nat → Int32)} {c_thrown : Int32} {c_read : (Nat → Int32)} {c_gains : (Nat → Int32)} {c_notes : (Nat → Int32)} {c_seen : (Nat → Int32)} {c_turns : (Nat → Int32)} {c_drawn : (Nat → Int32)} {c_state : Int32} {c_tape : (Nat → Int32)} {c_taped : Int32} {c_size : Int32} {c_from : Int32} {c_next : Int32} {c_token : Int32} {c_value : Int32} {c_fault : Int32} {c_number : Int32} {c_fives : (Nat → Int32)} {c_isLeft : (Nat → Int32)} {c_wentTimes : Int32} {c_goes : (Nat → Int32)} {c_isLeftLaid : Int32} {c_game : (Nat → Int32)} {c_rows : Int32} {c_columns : Int32} {c_isFound : Int32} {c_bestValue : Int64} {c_bestBelow : Int64} {c_bestShare : (Nat → Int64)} {c_share : (Nat → Int64)} {c_matrix : (Nat → Int64)} {c_system : (Nat → Int64)} {c_shares : (Nat → Int32)} {c_allShares : Int32} {v : Int32} (hf : F10_bookAt z x1 x2 c_told c_many c_eights = some v) : xCt l yX10_bookAt ((some .int)) j10_bookAt [.ref 0, .int x1, .int x2] (hM c_thrown c_told c_read c_many c_eights c_gains c_notes c_seen c_turns c_drawn c_state c_tape c_taped c_size c_from c_next c_token c_value c_fault c_number c_fives c_isLeft c_wentTimes c_goes c_isLeftLaid c_game c_rows c_columns c_isFound c_bestValue c_bestBelow c_bestShare c_share c_matrix c_system c_shares c_allShares) (some (.int v)) (hM c_thrown c_told c_read c_many c_eights c_gains c_notes c_seen c_turns c_drawn c_state c_tape c_taped c_size c_from c_next c_token c_value c_fault c_number c_fives c_isLeft c_wentTimes c_goes c_isLeftLaid c_game c_rows c_columns c_isFound c_bestValue c_bestBelow c_bestShare c_share c_matrix c_system c_shares c_allShares) := xCt_of (by decide) rfl (Nat.le_of_ble_eq_true rfl) (fun _ hX => T10_bookAt hX hf)
theorem m10_bookAt : xMd yX10_bookAt RX10 ((some .int)) j10_bookAt 2 := ⟨List.mem_of_getElem? (i := 824) (by decide +kernel), List.mem_of_getElem? (i := 5) (by decide +kernel), rfl, by decide +kernel⟩
theorem v10_bookAt : xMv yX10_bookAt RX10 := ⟨List.mem_of_getElem? (i := 822) (by decide +kernel), List.mem_of_getElem? (i := 823) (by decide +kernel)⟩
theorem dX10_booked_0 : decode cX10_booked 0 = .ok (.aload_n 0, 1) := by decide +kernel
theorem dX10_booked_1 : decode cX10_booked 1 = .ok (.getfield 17, 3) := by decide +kernel
theorem dX10_booked_4 : decode cX10_booked 4 = .ok (.iload_n 1, 1) := by decide +kernel
theorem dX10_booked_5 : decode cX10_booked 5 = .ok (.iconst 0, 1) := by decide +kernel
theorem dX10_booked_6 : decode cX10_booked 6 = .ok (.invokestatic 109, 3) := by decide +kernel
theorem dX10_booked_9 : decode cX10_booked 9 = .ok (.iaload, 1) := by decide +kernel
theorem dX10_booked_10 : decode cX10_booked 10 = .ok (.ireturn, 1) := by decide +kernel
abbrev j10_booked : xJ := (cX10_booked, 2, RX10, 2, 0, 0)
def F10_booked (x1 : Int32) (c_told : (Nat → Int32)) : Option (Int32) :=
  (F10_at x1 (0 : Int32)).bind (fun v6 => xg (xin v6 56) (some ((c_told (xn v6)))))
theorem T10_booked {X : xX} {x1 : Int32} {c_told : (Nat → Int32)} {c_thrown : Int32} {c_read : (Nat → Int32)} {c_many : (Nat → Int32)} {c_eights : (Nat → Int32)} {c_gains : (Nat → Int32)} {c_notes : (Nat → Int32)} {c_seen : (Nat → Int32)} {c_turns : (Nat → Int32)} {c_drawn : (Nat → Int32)} {c_state : Int32} {c_tape : (Nat → Int32)} {c_taped : Int32} {c_size : Int32} {c_from : Int32} {c_next : Int32} {c_token : Int32} {c_value : Int32} {c_fault : Int32} {c_number : Int32} {c_fives : (Nat → Int32)} {c_isLeft : (Nat → Int32)} {c_wentTimes : Int32} {c_goes : (Nat → Int32)} {c_isLeftLaid : Int32} {c_game : (Nat → Int32)} {c_rows : Int32} {c_columns : Int32} {c_isFound : Int32} {c_bestValue : Int64} {c_bestBelow : Int64} {c_bestShare : (Nat → Int64)} {c_share : (Nat → Int64)} {c_matrix : (Nat → Int64)} {c_system : (Nat → Int64)} {c_shares : (Nat → Int32)} {c_allShares : Int32} {v : Int32} (hX : xIs (j10_booked) X ((some .int)) (some (.int v)) (hM c_thrown c_told c_read c_many c_eights c_gains c_notes c_seen c_turns c_drawn c_state c_tape c_taped c_size c_from c_next c_token c_value c_fault c_number c_fives c_isLeft c_wentTimes c_goes c_isLeftLaid c_game c_rows c_columns c_isFound c_bestValue c_bestBelow c_bestShare c_share c_matrix c_system c_shares c_allShares)) (hf : F10_booked x1 c_told = some v) : xV (j10_booked) X 0 0 (hM c_thrown c_told c_read c_many c_eights c_gains c_notes c_seen c_turns c_drawn c_state c_tape c_taped c_size c_from c_next c_token c_value c_fault c_number c_fives c_isLeft c_wentTimes c_goes c_isLeftLaid c_game c_rows c_columns c_isFound c_bestValue c_bestBelow c_bestShare c_share c_matrix c_system c_shares c_allShares) 0 [(0, .ref 0), (1, .int x1)] [] := by
  unfold F10_booked at hf
  refine xV_aload_n 1 rfl dX10_booked_0 rfl 0 rfl ?_
  refine xV_get (v := .ref 1) 4 rfl dX10_booked_1 f10_17 rfl rfl ?_
  refine xV_iload_n 5 rfl dX10_booked_4 rfl 1 rfl ?_
  refine xV_iconst 6 rfl dX10_booked_5 xk_i0 ?_
  obtain ⟨v6, hv6, hf⟩ := xb_s hf
  refine xV_st0 (rest := [.ref 1]) 9 rfl dX10_booked_6 rfl (C10_at X.1.2.1 hv6) m10_at s10_at k10_109 rfl (Nat.le_of_ble_eq_true rfl) (Nat.le_of_ble_eq_true rfl) (Nat.le_of_ble_eq_true rfl) ⟨Nat.le_refl _, Nat.le_refl _⟩ ?_
  show xV (j10_booked) X 0 0 (hM c_thrown c_told c_read c_many c_eights c_gains c_notes c_seen c_turns c_drawn c_state c_tape c_taped c_size c_from c_next c_token c_value c_fault c_number c_fives c_isLeft c_wentTimes c_goes c_isLeftLaid c_game c_rows c_columns c_isFound c_bestValue c_bestBelow c_bestShare c_share c_matrix c_system c_shares c_allShares) 9 [(0, .ref 0), (1, .int x1)] [.int v6, .ref 1]
  obtain ⟨hg9, hf⟩ := xg_s hf
  refine xV_iaload 10 rfl dX10_booked_9 rfl (xin_ok hg9) rfl ?_
  obtain rfl := Option.some.inj hf
  exact xV_iret hX dX10_booked_10 rfl (Nat.zero_le _) (Nat.zero_le _)
theorem C10_booked (l : Launch) {x1 : Int32} {c_told : (Nat → Int32)} {c_thrown : Int32} {c_read : (Nat → Int32)} {c_many : (Nat → Int32)} {c_eights : (Nat → Int32)} {c_gains : (Nat → Int32)} {c_notes : (Nat → Int32)} {c_seen : (Nat → Int32)} {c_turns : (Nat → Int32)} {c_drawn : (Nat → Int32)} {c_state : Int32} {c_tape : (Nat → Int32)} {c_taped : Int32} {c_size : Int32} {c_from : Int32} {c_next : Int32} {c_token : Int32} {c_value : Int32} {c_fault : Int32} {c_number : Int32} {c_fives : (Nat → Int32)} {c_isLeft : (Nat → Int32)} {c_wentTimes : Int32} {c_goes : (Nat → Int32)} {c_isLeftLaid : Int32} {c_game : (Nat → Int32)} {c_rows : Int32} {c_columns : Int32} {c_isFound : Int32} {c_bestValue : Int64} {c_bestBelow : Int64} {c_bestShare : (Nat → Int64)} {c_share : (Nat → Int64)} {c_matrix : (Nat → Int64)} {c_system : (Nat → Int64)} {c_shares : (Nat → Int32)} {c_allShares : Int32} {v : Int32} (hf : F10_booked x1 c_told = some v) : xCt l yX10_booked ((some .int)) j10_booked [.ref 0, .int x1] (hM c_thrown c_told c_read c_many c_eights c_gains c_notes c_seen c_turns c_drawn c_state c_tape c_taped c_size c_from c_next c_token c_value c_fault c_number c_fives c_isLeft c_wentTimes c_goes c_isLeftLaid c_game c_rows c_columns c_isFound c_bestValue c_bestBelow c_bestShare c_share c_matrix c_system c_shares c_allShares) (some (.int v)) (hM c_thrown c_told c_read c_many c_eights c_gains c_notes c_seen c_turns c_drawn c_state c_tape c_taped c_size c_from c_next c_token c_value c_fault c_number c_fives c_isLeft c_wentTimes c_goes c_isLeftLaid c_game c_rows c_columns c_isFound c_bestValue c_bestBelow c_bestShare c_share c_matrix c_system c_shares c_allShares) := xCt_of (by decide) rfl (Nat.le_of_ble_eq_true rfl) (fun _ hX => T10_booked hX hf)
theorem m10_booked : xMd yX10_booked RX10 ((some .int)) j10_booked 1 := ⟨List.mem_of_getElem? (i := 816) (by decide +kernel), List.mem_of_getElem? (i := 5) (by decide +kernel), rfl, by decide +kernel⟩
theorem v10_booked : xMv yX10_booked RX10 := ⟨List.mem_of_getElem? (i := 814) (by decide +kernel), List.mem_of_getElem? (i := 815) (by decide +kernel)⟩
theorem k10_259 : Cond.methodLink RX10 259 yX10_booked ∈ wsL_law0 := List.mem_of_getElem? (i := 813) (by decide +kernel)
theorem k10_266 : Cond.methodLink RX10 266 yX10_bookAt ∈ wsL_law0 := List.mem_of_getElem? (i := 821) (by decide +kernel)
theorem dX10_memberOf_0 : decode cX10_memberOf 0 = .ok (.iload_n 2, 1) := by decide +kernel
theorem dX10_memberOf_1 : decode cX10_memberOf 1 = .ok (.aload_n 0, 1) := by decide +kernel
theorem dX10_memberOf_2 : decode cX10_memberOf 2 = .ok (.iload_n 1, 1) := by decide +kernel
theorem dX10_memberOf_3 : decode cX10_memberOf 3 = .ok (.invokevirtual 259, 3) := by decide +kernel
theorem dX10_memberOf_6 : decode cX10_memberOf 6 = .ok (.if_icmp .ne 15, 3) := by decide +kernel
theorem dX10_memberOf_9 : decode cX10_memberOf 9 = .ok (.iload_n 1, 1) := by decide +kernel
theorem dX10_memberOf_10 : decode cX10_memberOf 10 = .ok (.iload_n 3, 1) := by decide +kernel
theorem dX10_memberOf_11 : decode cX10_memberOf 11 = .ok (.if_icmp .ne 8, 3) := by decide +kernel
theorem dX10_memberOf_14 : decode cX10_memberOf 14 = .ok (.iload 5, 2) := by decide +kernel
theorem dX10_memberOf_16 : decode cX10_memberOf 16 = .ok (.goto 4, 3) := by decide +kernel
theorem dX10_memberOf_19 : decode cX10_memberOf 19 = .ok (.iconst (-1), 1) := by decide +kernel
theorem dX10_memberOf_20 : decode cX10_memberOf 20 = .ok (.ireturn, 1) := by decide +kernel
theorem dX10_memberOf_21 : decode cX10_memberOf 21 = .ok (.iload_n 1, 1) := by decide +kernel
theorem dX10_memberOf_22 : decode cX10_memberOf 22 = .ok (.iload_n 3, 1) := by decide +kernel
theorem dX10_memberOf_23 : decode cX10_memberOf 23 = .ok (.if_icmp .ne 13, 3) := by decide +kernel
theorem dX10_memberOf_26 : decode cX10_memberOf 26 = .ok (.iload_n 2, 1) := by decide +kernel
theorem dX10_memberOf_27 : decode cX10_memberOf 27 = .ok (.iload 4, 2) := by decide +kernel
theorem dX10_memberOf_29 : decode cX10_memberOf 29 = .ok (.if_icmp .ne 7, 3) := by decide +kernel
theorem dX10_memberOf_32 : decode cX10_memberOf 32 = .ok (.iconst (-1), 1) := by decide +kernel
theorem dX10_memberOf_33 : decode cX10_memberOf 33 = .ok (.goto 9, 3) := by decide +kernel
theorem dX10_memberOf_36 : decode cX10_memberOf 36 = .ok (.aload_n 0, 1) := by decide +kernel
theorem dX10_memberOf_37 : decode cX10_memberOf 37 = .ok (.iload_n 1, 1) := by decide +kernel
theorem dX10_memberOf_38 : decode cX10_memberOf 38 = .ok (.iload_n 2, 1) := by decide +kernel
theorem dX10_memberOf_39 : decode cX10_memberOf 39 = .ok (.invokevirtual 266, 3) := by decide +kernel
theorem dX10_memberOf_42 : decode cX10_memberOf 42 = .ok (.ireturn, 1) := by decide +kernel
abbrev j10_memberOf : xJ := (cX10_memberOf, 6, RX10, 4, 0, 0)
def F10_memberOf_b36 (z : Nat) (x1 : Int32) (x2 : Int32) (c_told : (Nat → Int32)) (c_many : (Nat → Int32)) (c_eights : (Nat → Int32)) : Option (Int32) :=
  (F10_bookAt z x1 x2 c_told c_many c_eights).bind (fun v39 => some (v39))
theorem T10_memberOf_b36 {X : xX} {c_thrown : Int32} {c_read : (Nat → Int32)} {c_gains : (Nat → Int32)} {c_notes : (Nat → Int32)} {c_seen : (Nat → Int32)} {c_turns : (Nat → Int32)} {c_drawn : (Nat → Int32)} {c_state : Int32} {c_tape : (Nat → Int32)} {c_taped : Int32} {c_size : Int32} {c_from : Int32} {c_next : Int32} {c_token : Int32} {c_value : Int32} {c_fault : Int32} {c_number : Int32} {c_fives : (Nat → Int32)} {c_isLeft : (Nat → Int32)} {c_wentTimes : Int32} {c_goes : (Nat → Int32)} {c_isLeftLaid : Int32} {c_game : (Nat → Int32)} {c_rows : Int32} {c_columns : Int32} {c_isFound : Int32} {c_bestValue : Int64} {c_bestBelow : Int64} {c_bestShare : (Nat → Int64)} {c_share : (Nat → Int64)} {c_matrix : (Nat → Int64)} {c_system : (Nat → Int64)} {c_shares : (Nat → Int32)} {c_allShares : Int32} {x1 : Int32} {x2 : Int32} {c_told : (Nat → Int32)} {c_many : (Nat → Int32)} {c_eights : (Nat → Int32)} {z : Nat} {v : Int32} (hX : xIs (j10_memberOf) X ((some .int)) (some (.int v)) (hM c_thrown c_told c_read c_many c_eights c_gains c_notes c_seen c_turns c_drawn c_state c_tape c_taped c_size c_from c_next c_token c_value c_fault c_number c_fives c_isLeft c_wentTimes c_goes c_isLeftLaid c_game c_rows c_columns c_isFound c_bestValue c_bestBelow c_bestShare c_share c_matrix c_system c_shares c_allShares)) (hf : F10_memberOf_b36 z x1 x2 c_told c_many c_eights = some v) : xV (j10_memberOf) X 0 0 (hM c_thrown c_told c_read c_many c_eights c_gains c_notes c_seen c_turns c_drawn c_state c_tape c_taped c_size c_from c_next c_token c_value c_fault c_number c_fives c_isLeft c_wentTimes c_goes c_isLeftLaid c_game c_rows c_columns c_isFound c_bestValue c_bestBelow c_bestShare c_share c_matrix c_system c_shares c_allShares) 36 [(0, .ref 0), (1, .int x1), (2, .int x2)] [] := by
  unfold F10_memberOf_b36 at hf
  refine xV_aload_n 37 rfl dX10_memberOf_36 rfl 0 rfl ?_
  refine xV_iload_n 38 rfl dX10_memberOf_37 rfl 1 rfl ?_
  refine xV_iload_n 39 rfl dX10_memberOf_38 rfl 2 rfl ?_
  obtain ⟨v39, hv39, hf⟩ := xb_s hf
  refine xV_same (rest := []) 42 rfl dX10_memberOf_39 rfl (C10_bookAt X.1.2.1 hv39) m10_bookAt v10_bookAt k10_266 rfl rfl rfl rfl rfl (Nat.le_of_ble_eq_true rfl) (Nat.le_of_ble_eq_true rfl) (Nat.le_of_ble_eq_true rfl) ⟨Nat.le_refl _, Nat.le_refl _⟩ ?_
  show xV (j10_memberOf) X 0 0 (hM c_thrown c_told c_read c_many c_eights c_gains c_notes c_seen c_turns c_drawn c_state c_tape c_taped c_size c_from c_next c_token c_value c_fault c_number c_fives c_isLeft c_wentTimes c_goes c_isLeftLaid c_game c_rows c_columns c_isFound c_bestValue c_bestBelow c_bestShare c_share c_matrix c_system c_shares c_allShares) 42 [(0, .ref 0), (1, .int x1), (2, .int x2)] [.int v39]
  obtain rfl := Option.some.inj hf
  exact xV_iret hX dX10_memberOf_42 rfl (Nat.zero_le _) (Nat.zero_le _)
def F10_memberOf (z : Nat) (x1 : Int32) (x2 : Int32) (x3 : Int32) (x4 : Int32) (x5 : Int32) (c_told : (Nat → Int32)) (c_many : (Nat → Int32)) (c_eights : (Nat → Int32)) : Option (Int32) :=
  (F10_booked x1 c_told).bind (fun v3 => if x2 = v3 then (if x1 = x3 then (some (x5)) else (some ((-1 : Int32)))) else (if x1 = x3 then (if x2 = x4 then (some ((-1 : Int32))) else (F10_memberOf_b36 z x1 x2 c_told c_many c_eights)) else (F10_memberOf_b36 z x1 x2 c_told c_many c_eights)))
theorem T10_memberOf {X : xX} {z : Nat} {x1 : Int32} {x2 : Int32} {x3 : Int32} {x4 : Int32} {x5 : Int32} {c_told : (Nat → Int32)} {c_many : (Nat → Int32)} {c_eights : (Nat → Int32)} {c_thrown : Int32} {c_read : (Nat → Int32)} {c_gains : (Nat → Int32)} {c_notes : (Nat → Int32)} {c_seen : (Nat → Int32)} {c_turns : (Nat → Int32)} {c_drawn : (Nat → Int32)} {c_state : Int32} {c_tape : (Nat → Int32)} {c_taped : Int32} {c_size : Int32} {c_from : Int32} {c_next : Int32} {c_token : Int32} {c_value : Int32} {c_fault : Int32} {c_number : Int32} {c_fives : (Nat → Int32)} {c_isLeft : (Nat → Int32)} {c_wentTimes : Int32} {c_goes : (Nat → Int32)} {c_isLeftLaid : Int32} {c_game : (Nat → Int32)} {c_rows : Int32} {c_columns : Int32} {c_isFound : Int32} {c_bestValue : Int64} {c_bestBelow : Int64} {c_bestShare : (Nat → Int64)} {c_share : (Nat → Int64)} {c_matrix : (Nat → Int64)} {c_system : (Nat → Int64)} {c_shares : (Nat → Int32)} {c_allShares : Int32} {v : Int32} (hX : xIs (j10_memberOf) X ((some .int)) (some (.int v)) (hM c_thrown c_told c_read c_many c_eights c_gains c_notes c_seen c_turns c_drawn c_state c_tape c_taped c_size c_from c_next c_token c_value c_fault c_number c_fives c_isLeft c_wentTimes c_goes c_isLeftLaid c_game c_rows c_columns c_isFound c_bestValue c_bestBelow c_bestShare c_share c_matrix c_system c_shares c_allShares)) (hf : F10_memberOf z x1 x2 x3 x4 x5 c_told c_many c_eights = some v) : xV (j10_memberOf) X 0 0 (hM c_thrown c_told c_read c_many c_eights c_gains c_notes c_seen c_turns c_drawn c_state c_tape c_taped c_size c_from c_next c_token c_value c_fault c_number c_fives c_isLeft c_wentTimes c_goes c_isLeftLaid c_game c_rows c_columns c_isFound c_bestValue c_bestBelow c_bestShare c_share c_matrix c_system c_shares c_allShares) 0 [(0, .ref 0), (1, .int x1), (2, .int x2), (3, .int x3), (4, .int x4), (5, .int x5)] [] := by
  unfold F10_memberOf at hf
  refine xV_iload_n 1 rfl dX10_memberOf_0 rfl 2 rfl ?_
  refine xV_aload_n 2 rfl dX10_memberOf_1 rfl 0 rfl ?_
  refine xV_iload_n 3 rfl dX10_memberOf_2 rfl 1 rfl ?_
  obtain ⟨v3, hv3, hf⟩ := xb_s hf
  refine xV_same (rest := [.int x2]) 6 rfl dX10_memberOf_3 rfl (C10_booked X.1.2.1 hv3) m10_booked v10_booked k10_259 rfl rfl rfl rfl rfl (Nat.le_of_ble_eq_true rfl) (Nat.le_of_ble_eq_true rfl) (Nat.le_of_ble_eq_true rfl) ⟨Nat.le_refl _, Nat.le_refl _⟩ ?_
  show xV (j10_memberOf) X 0 0 (hM c_thrown c_told c_read c_many c_eights c_gains c_notes c_seen c_turns c_drawn c_state c_tape c_taped c_size c_from c_next c_token c_value c_fault c_number c_fives c_isLeft c_wentTimes c_goes c_isLeftLaid c_game c_rows c_columns c_isFound c_bestValue c_bestBelow c_bestShare c_share c_matrix c_system c_shares c_allShares) 6 [(0, .ref 0), (1, .int x1), (2, .int x2), (3, .int x3), (4, .int x4), (5, .int x5)] [.int v3, .int x2]
  refine xV_icmp_ne (tgt := 21) 9 rfl dX10_memberOf_6 (by decide) (fun h6 => ?_) (fun h6 => ?_)
  · have hf := xif_f hf h6
    refine xV_iload_n 22 rfl dX10_memberOf_21 rfl 1 rfl ?_
    refine xV_iload_n 23 rfl dX10_memberOf_22 rfl 3 rfl ?_
    refine xV_icmp_ne (tgt := 36) 26 rfl dX10_memberOf_23 (by decide) (fun h23 => ?_) (fun h23 => ?_)
    · have hf := xif_f hf h23
      refine xV_sub [0, 1, 2] rfl ?_
      exact T10_memberOf_b36 hX hf
    · have hf := xif_t hf h23
      refine xV_iload_n 27 rfl dX10_memberOf_26 rfl 2 rfl ?_
      refine xV_iload 29 rfl dX10_memberOf_27 4 rfl ?_
      refine xV_icmp_ne (tgt := 36) 32 rfl dX10_memberOf_29 (by decide) (fun h29 => ?_) (fun h29 => ?_)
      · have hf := xif_f hf h29
        refine xV_sub [0, 1, 2] rfl ?_
        exact T10_memberOf_b36 hX hf
      · have hf := xif_t hf h29
        refine xV_iconst 33 rfl dX10_memberOf_32 xk_im1 ?_
        refine xV_goto (tgt := 42) dX10_memberOf_33 (by decide) ?_
        obtain rfl := Option.some.inj hf
        exact xV_iret hX dX10_memberOf_42 rfl (Nat.zero_le _) (Nat.zero_le _)
  · have hf := xif_t hf h6
    refine xV_iload_n 10 rfl dX10_memberOf_9 rfl 1 rfl ?_
    refine xV_iload_n 11 rfl dX10_memberOf_10 rfl 3 rfl ?_
    refine xV_icmp_ne (tgt := 19) 14 rfl dX10_memberOf_11 (by decide) (fun h11 => ?_) (fun h11 => ?_)
    · have hf := xif_f hf h11
      refine xV_iconst 20 rfl dX10_memberOf_19 xk_im1 ?_
      obtain rfl := Option.some.inj hf
      exact xV_iret hX dX10_memberOf_20 rfl (Nat.zero_le _) (Nat.zero_le _)
    · have hf := xif_t hf h11
      refine xV_iload 16 rfl dX10_memberOf_14 5 rfl ?_
      refine xV_goto (tgt := 20) dX10_memberOf_16 (by decide) ?_
      obtain rfl := Option.some.inj hf
      exact xV_iret hX dX10_memberOf_20 rfl (Nat.zero_le _) (Nat.zero_le _)
theorem C10_memberOf (l : Launch) {z : Nat} {x1 : Int32} {x2 : Int32} {x3 : Int32} {x4 : Int32} {x5 : Int32} {c_told : (Nat → Int32)} {c_many : (Nat → Int32)} {c_eights : (Nat → Int32)} {c_thrown : Int32} {c_read : (Nat → Int32)} {c_gains : (Nat → Int32)} {c_notes : (Nat → Int32)} {c_seen : (Nat → Int32)} {c_turns : (Nat → Int32)} {c_drawn : (Nat → Int32)} {c_state : Int32} {c_tape : (Nat → Int32)} {c_taped : Int32} {c_size : Int32} {c_from : Int32} {c_next : Int32} {c_token : Int32} {c_value : Int32} {c_fault : Int32} {c_number : Int32} {c_fives : (Nat → Int32)} {c_isLeft : (Nat → Int32)} {c_wentTimes : Int32} {c_goes : (Nat → Int32)} {c_isLeftLaid : Int32} {c_game : (Nat → Int32)} {c_rows : Int32} {c_columns : Int32} {c_isFound : Int32} {c_bestValue : Int64} {c_bestBelow : Int64} {c_bestShare : (Nat → Int64)} {c_share : (Nat → Int64)} {c_matrix : (Nat → Int64)} {c_system : (Nat → Int64)} {c_shares : (Nat → Int32)} {c_allShares : Int32} {v : Int32} (hf : F10_memberOf z x1 x2 x3 x4 x5 c_told c_many c_eights = some v) : xCt l yX10_memberOf ((some .int)) j10_memberOf [.ref 0, .int x1, .int x2, .int x3, .int x4, .int x5] (hM c_thrown c_told c_read c_many c_eights c_gains c_notes c_seen c_turns c_drawn c_state c_tape c_taped c_size c_from c_next c_token c_value c_fault c_number c_fives c_isLeft c_wentTimes c_goes c_isLeftLaid c_game c_rows c_columns c_isFound c_bestValue c_bestBelow c_bestShare c_share c_matrix c_system c_shares c_allShares) (some (.int v)) (hM c_thrown c_told c_read c_many c_eights c_gains c_notes c_seen c_turns c_drawn c_state c_tape c_taped c_size c_from c_next c_token c_value c_fault c_number c_fives c_isLeft c_wentTimes c_goes c_isLeftLaid c_game c_rows c_columns c_isFound c_bestValue c_bestBelow c_bestShare c_share c_matrix c_system c_shares c_allShares) := xCt_of (by decide) rfl (Nat.le_of_ble_eq_true rfl) (fun _ hX => T10_memberOf hX hf)
theorem m10_memberOf : xMd yX10_memberOf RX10 ((some .int)) j10_memberOf 5 := ⟨List.mem_of_getElem? (i := 938) (by decide +kernel), List.mem_of_getElem? (i := 5) (by decide +kernel), rfl, by decide +kernel⟩
theorem v10_memberOf : xMv yX10_memberOf RX10 := ⟨List.mem_of_getElem? (i := 936) (by decide +kernel), List.mem_of_getElem? (i := 937) (by decide +kernel)⟩
theorem f10_253 : xFl RX10 253 10 26 := ⟨_, rfl, by decide, List.mem_of_getElem? (i := 933) (by decide +kernel)⟩
theorem nf10_26 : ∀ q : vw_C, vwCl[10]? = some q → (q.2.1 26).2.2.2 = false := fun q e => by cases e; rfl
theorem f10_256 : xFl RX10 256 10 27 := ⟨_, rfl, by decide, List.mem_of_getElem? (i := 934) (by decide +kernel)⟩
theorem nf10_27 : ∀ q : vw_C, vwCl[10]? = some q → (q.2.1 27).2.2.2 = false := fun q e => by cases e; rfl
theorem k10_262 : Cond.methodLink RX10 262 yX10_memberOf ∈ wsL_law0 := List.mem_of_getElem? (i := 935) (by decide +kernel)
theorem f10_60 : xFl RX10 60 10 25 := ⟨_, rfl, by decide, List.mem_of_getElem? (i := 138) (by decide +kernel)⟩
theorem dX10_laysGame_0 : decode cX10_laysGame 0 = .ok (.aload_n 0, 1) := by decide +kernel
theorem dX10_laysGame_1 : decode cX10_laysGame 1 = .ok (.iconst 0, 1) := by decide +kernel
theorem dX10_laysGame_2 : decode cX10_laysGame 2 = .ok (.putfield 253, 3) := by decide +kernel
theorem dX10_laysGame_5 : decode cX10_laysGame 5 = .ok (.aload_n 0, 1) := by decide +kernel
theorem dX10_laysGame_6 : decode cX10_laysGame 6 = .ok (.iconst 0, 1) := by decide +kernel
theorem dX10_laysGame_7 : decode cX10_laysGame 7 = .ok (.putfield 256, 3) := by decide +kernel
theorem dX10_laysGame_10 : decode cX10_laysGame 10 = .ok (.iconst 0, 1) := by decide +kernel
theorem dX10_laysGame_11 : decode cX10_laysGame 11 = .ok (.istore 5, 2) := by decide +kernel
theorem dX10_laysGame_13 : decode cX10_laysGame 13 = .ok (.iload 5, 2) := by decide +kernel
theorem dX10_laysGame_15 : decode cX10_laysGame 15 = .ok (.aload_n 0, 1) := by decide +kernel
theorem dX10_laysGame_16 : decode cX10_laysGame 16 = .ok (.iload_n 1, 1) := by decide +kernel
theorem dX10_laysGame_17 : decode cX10_laysGame 17 = .ok (.invokevirtual 259, 3) := by decide +kernel
theorem dX10_laysGame_20 : decode cX10_laysGame 20 = .ok (.iconst 1, 1) := by decide +kernel
theorem dX10_laysGame_21 : decode cX10_laysGame 21 = .ok (.iadd, 1) := by decide +kernel
theorem dX10_laysGame_22 : decode cX10_laysGame 22 = .ok (.if_icmp .ge 123, 3) := by decide +kernel
theorem dX10_laysGame_25 : decode cX10_laysGame 25 = .ok (.aload_n 0, 1) := by decide +kernel
theorem dX10_laysGame_26 : decode cX10_laysGame 26 = .ok (.iload_n 1, 1) := by decide +kernel
theorem dX10_laysGame_27 : decode cX10_laysGame 27 = .ok (.iload 5, 2) := by decide +kernel
theorem dX10_laysGame_29 : decode cX10_laysGame 29 = .ok (.iload_n 2, 1) := by decide +kernel
theorem dX10_laysGame_30 : decode cX10_laysGame 30 = .ok (.iload_n 3, 1) := by decide +kernel
theorem dX10_laysGame_31 : decode cX10_laysGame 31 = .ok (.iload 4, 2) := by decide +kernel
theorem dX10_laysGame_33 : decode cX10_laysGame 33 = .ok (.invokevirtual 262, 3) := by decide +kernel
theorem dX10_laysGame_36 : decode cX10_laysGame 36 = .ok (.istore 6, 2) := by decide +kernel
theorem dX10_laysGame_38 : decode cX10_laysGame 38 = .ok (.iload 6, 2) := by decide +kernel
theorem dX10_laysGame_40 : decode cX10_laysGame 40 = .ok (.iconst (-1), 1) := by decide +kernel
theorem dX10_laysGame_41 : decode cX10_laysGame 41 = .ok (.if_icmp .eq 98, 3) := by decide +kernel
theorem dX10_laysGame_44 : decode cX10_laysGame 44 = .ok (.aload_n 0, 1) := by decide +kernel
theorem dX10_laysGame_45 : decode cX10_laysGame 45 = .ok (.iconst 0, 1) := by decide +kernel
theorem dX10_laysGame_46 : decode cX10_laysGame 46 = .ok (.putfield 256, 3) := by decide +kernel
theorem dX10_laysGame_49 : decode cX10_laysGame 49 = .ok (.iconst 0, 1) := by decide +kernel
theorem dX10_laysGame_50 : decode cX10_laysGame 50 = .ok (.istore 7, 2) := by decide +kernel
theorem dX10_laysGame_52 : decode cX10_laysGame 52 = .ok (.iload 7, 2) := by decide +kernel
theorem dX10_laysGame_54 : decode cX10_laysGame 54 = .ok (.aload_n 0, 1) := by decide +kernel
theorem dX10_laysGame_55 : decode cX10_laysGame 55 = .ok (.iconst 1, 1) := by decide +kernel
theorem dX10_laysGame_56 : decode cX10_laysGame 56 = .ok (.iload_n 1, 1) := by decide +kernel
theorem dX10_laysGame_57 : decode cX10_laysGame 57 = .ok (.isub, 1) := by decide +kernel
theorem dX10_laysGame_58 : decode cX10_laysGame 58 = .ok (.invokevirtual 259, 3) := by decide +kernel
theorem dX10_laysGame_61 : decode cX10_laysGame 61 = .ok (.iconst 1, 1) := by decide +kernel
theorem dX10_laysGame_62 : decode cX10_laysGame 62 = .ok (.iadd, 1) := by decide +kernel
theorem dX10_laysGame_63 : decode cX10_laysGame 63 = .ok (.if_icmp .ge 66, 3) := by decide +kernel
theorem dX10_laysGame_66 : decode cX10_laysGame 66 = .ok (.aload_n 0, 1) := by decide +kernel
theorem dX10_laysGame_67 : decode cX10_laysGame 67 = .ok (.iconst 1, 1) := by decide +kernel
theorem dX10_laysGame_68 : decode cX10_laysGame 68 = .ok (.iload_n 1, 1) := by decide +kernel
theorem dX10_laysGame_69 : decode cX10_laysGame 69 = .ok (.isub, 1) := by decide +kernel
theorem dX10_laysGame_70 : decode cX10_laysGame 70 = .ok (.iload 7, 2) := by decide +kernel
theorem dX10_laysGame_72 : decode cX10_laysGame 72 = .ok (.iload_n 2, 1) := by decide +kernel
theorem dX10_laysGame_73 : decode cX10_laysGame 73 = .ok (.iload_n 3, 1) := by decide +kernel
theorem dX10_laysGame_74 : decode cX10_laysGame 74 = .ok (.iload 4, 2) := by decide +kernel
theorem dX10_laysGame_76 : decode cX10_laysGame 76 = .ok (.invokevirtual 262, 3) := by decide +kernel
theorem dX10_laysGame_79 : decode cX10_laysGame 79 = .ok (.istore 8, 2) := by decide +kernel
theorem dX10_laysGame_81 : decode cX10_laysGame 81 = .ok (.iload 8, 2) := by decide +kernel
theorem dX10_laysGame_83 : decode cX10_laysGame 83 = .ok (.iconst (-1), 1) := by decide +kernel
theorem dX10_laysGame_84 : decode cX10_laysGame 84 = .ok (.if_icmp .eq 39, 3) := by decide +kernel
theorem dX10_laysGame_87 : decode cX10_laysGame 87 = .ok (.aload_n 0, 1) := by decide +kernel
theorem dX10_laysGame_88 : decode cX10_laysGame 88 = .ok (.getfield 60, 3) := by decide +kernel
theorem dX10_laysGame_91 : decode cX10_laysGame 91 = .ok (.bipush 8, 2) := by decide +kernel
theorem dX10_laysGame_93 : decode cX10_laysGame 93 = .ok (.aload_n 0, 1) := by decide +kernel
theorem dX10_laysGame_94 : decode cX10_laysGame 94 = .ok (.getfield 253, 3) := by decide +kernel
theorem dX10_laysGame_97 : decode cX10_laysGame 97 = .ok (.imul, 1) := by decide +kernel
theorem dX10_laysGame_98 : decode cX10_laysGame 98 = .ok (.aload_n 0, 1) := by decide +kernel
theorem dX10_laysGame_99 : decode cX10_laysGame 99 = .ok (.getfield 256, 3) := by decide +kernel
theorem dX10_laysGame_102 : decode cX10_laysGame 102 = .ok (.iadd, 1) := by decide +kernel
theorem dX10_laysGame_103 : decode cX10_laysGame 103 = .ok (.aload_n 0, 1) := by decide +kernel
theorem dX10_laysGame_104 : decode cX10_laysGame 104 = .ok (.iload_n 1, 1) := by decide +kernel
theorem dX10_laysGame_105 : decode cX10_laysGame 105 = .ok (.iload 6, 2) := by decide +kernel
theorem dX10_laysGame_107 : decode cX10_laysGame 107 = .ok (.iload 8, 2) := by decide +kernel
theorem dX10_laysGame_109 : decode cX10_laysGame 109 = .ok (.invokevirtual 233, 3) := by decide +kernel
theorem dX10_laysGame_112 : decode cX10_laysGame 112 = .ok (.iastore, 1) := by decide +kernel
theorem dX10_laysGame_113 : decode cX10_laysGame 113 = .ok (.aload_n 0, 1) := by decide +kernel
theorem dX10_laysGame_114 : decode cX10_laysGame 114 = .ok (.dup, 1) := by decide +kernel
theorem dX10_laysGame_115 : decode cX10_laysGame 115 = .ok (.getfield 256, 3) := by decide +kernel
theorem dX10_laysGame_118 : decode cX10_laysGame 118 = .ok (.iconst 1, 1) := by decide +kernel
theorem dX10_laysGame_119 : decode cX10_laysGame 119 = .ok (.iadd, 1) := by decide +kernel
theorem dX10_laysGame_120 : decode cX10_laysGame 120 = .ok (.putfield 256, 3) := by decide +kernel
theorem dX10_laysGame_123 : decode cX10_laysGame 123 = .ok (.iinc 7 1, 3) := by decide +kernel
theorem dX10_laysGame_126 : decode cX10_laysGame 126 = .ok (.goto (-74), 3) := by decide +kernel
theorem dX10_laysGame_129 : decode cX10_laysGame 129 = .ok (.aload_n 0, 1) := by decide +kernel
theorem dX10_laysGame_130 : decode cX10_laysGame 130 = .ok (.dup, 1) := by decide +kernel
theorem dX10_laysGame_131 : decode cX10_laysGame 131 = .ok (.getfield 253, 3) := by decide +kernel
theorem dX10_laysGame_134 : decode cX10_laysGame 134 = .ok (.iconst 1, 1) := by decide +kernel
theorem dX10_laysGame_135 : decode cX10_laysGame 135 = .ok (.iadd, 1) := by decide +kernel
theorem dX10_laysGame_136 : decode cX10_laysGame 136 = .ok (.putfield 253, 3) := by decide +kernel
theorem dX10_laysGame_139 : decode cX10_laysGame 139 = .ok (.iinc 5 1, 3) := by decide +kernel
theorem dX10_laysGame_142 : decode cX10_laysGame 142 = .ok (.goto (-129), 3) := by decide +kernel
theorem dX10_laysGame_145 : decode cX10_laysGame 145 = .ok (.return_, 1) := by decide +kernel
abbrev j10_laysGame : xJ := (cX10_laysGame, 9, RX10, 5, 0, 0)
def F10_laysGame_b139 (z : Nat) (x1 : Int32) (x2 : Int32) (x3 : Int32) (x4 : Int32) (x5 : Int32) (c_told : (Nat → Int32)) (c_many : (Nat → Int32)) (c_eights : (Nat → Int32)) (c_gains : (Nat → Int32)) (c_game : (Nat → Int32)) (c_rows : Int32) (c_columns : Int32) (k13 : Int32 → Int32 → Int32 → Int32 → Int32 → (Nat → Int32) → (Nat → Int32) → (Nat → Int32) → (Nat → Int32) → (Nat → Int32) → Int32 → Int32 → Option ((Nat → Int32) × Int32 × Int32)) : Option ((Nat → Int32) × Int32 × Int32) :=
  k13 x1 x2 x3 x4 (x5 + (1 : Int32)) c_told c_many c_eights c_gains c_game c_rows c_columns
theorem T10_laysGame_b139 {X : xX} {c_thrown : Int32} {c_read : (Nat → Int32)} {c_notes : (Nat → Int32)} {c_seen : (Nat → Int32)} {c_turns : (Nat → Int32)} {c_drawn : (Nat → Int32)} {c_state : Int32} {c_tape : (Nat → Int32)} {c_taped : Int32} {c_size : Int32} {c_from : Int32} {c_next : Int32} {c_token : Int32} {c_value : Int32} {c_fault : Int32} {c_number : Int32} {c_fives : (Nat → Int32)} {c_isLeft : (Nat → Int32)} {c_wentTimes : Int32} {c_goes : (Nat → Int32)} {c_isLeftLaid : Int32} {c_isFound : Int32} {c_bestValue : Int64} {c_bestBelow : Int64} {c_bestShare : (Nat → Int64)} {c_share : (Nat → Int64)} {c_matrix : (Nat → Int64)} {c_system : (Nat → Int64)} {c_shares : (Nat → Int32)} {c_allShares : Int32} {x1 : Int32} {x2 : Int32} {x3 : Int32} {x4 : Int32} {x5 : Int32} {c_told : (Nat → Int32)} {c_many : (Nat → Int32)} {c_eights : (Nat → Int32)} {c_gains : (Nat → Int32)} {c_game : (Nat → Int32)} {c_rows : Int32} {c_columns : Int32} {z : Nat} {v : (Nat → Int32) × Int32 × Int32} {k13 : Int32 → Int32 → Int32 → Int32 → Int32 → (Nat → Int32) → (Nat → Int32) → (Nat → Int32) → (Nat → Int32) → (Nat → Int32) → Int32 → Int32 → Option ((Nat → Int32) × Int32 × Int32)} (hX : xIs (j10_laysGame) X none none (hM c_thrown c_told c_read c_many c_eights c_gains c_notes c_seen c_turns c_drawn c_state c_tape c_taped c_size c_from c_next c_token c_value c_fault c_number c_fives c_isLeft c_wentTimes c_goes c_isLeftLaid v.1 v.2.1 v.2.2 c_isFound c_bestValue c_bestBelow c_bestShare c_share c_matrix c_system c_shares c_allShares)) (hk13 : ∀ {x1 : Int32} {x2 : Int32} {x3 : Int32} {x4 : Int32} {x5 : Int32} {c_game : (Nat → Int32)} {c_rows : Int32} {c_columns : Int32}, k13 x1 x2 x3 x4 x5 c_told c_many c_eights c_gains c_game c_rows c_columns = some v → xV (j10_laysGame) X 0 0 (hM c_thrown c_told c_read c_many c_eights c_gains c_notes c_seen c_turns c_drawn c_state c_tape c_taped c_size c_from c_next c_token c_value c_fault c_number c_fives c_isLeft c_wentTimes c_goes c_isLeftLaid c_game c_rows c_columns c_isFound c_bestValue c_bestBelow c_bestShare c_share c_matrix c_system c_shares c_allShares) 13 [(0, .ref 0), (1, .int x1), (2, .int x2), (3, .int x3), (4, .int x4), (5, .int x5)] []) (hf : F10_laysGame_b139 z x1 x2 x3 x4 x5 c_told c_many c_eights c_gains c_game c_rows c_columns k13 = some v) : xV (j10_laysGame) X 0 0 (hM c_thrown c_told c_read c_many c_eights c_gains c_notes c_seen c_turns c_drawn c_state c_tape c_taped c_size c_from c_next c_token c_value c_fault c_number c_fives c_isLeft c_wentTimes c_goes c_isLeftLaid c_game c_rows c_columns c_isFound c_bestValue c_bestBelow c_bestShare c_share c_matrix c_system c_shares c_allShares) 139 [(0, .ref 0), (1, .int x1), (2, .int x2), (3, .int x3), (4, .int x4), (5, .int x5)] [] := by
  unfold F10_laysGame_b139 at hf
  refine xV_iinc (L' := [(5, .int (x5 + (1 : Int32))), (0, .ref 0), (1, .int x1), (2, .int x2), (3, .int x3), (4, .int x4)]) 142 rfl dX10_laysGame_139 5 rfl (xk_inc xk_i1) (xlt rfl) rfl ?_
  refine xV_goto (tgt := 13) dX10_laysGame_142 (by decide) ?_
  refine xV_sub [1, 2, 3, 4, 5, 0] rfl ?_
  exact hk13 hf
def F10_laysGame_b129 (z : Nat) (x1 : Int32) (x2 : Int32) (x3 : Int32) (x4 : Int32) (x5 : Int32) (c_told : (Nat → Int32)) (c_many : (Nat → Int32)) (c_eights : (Nat → Int32)) (c_gains : (Nat → Int32)) (c_game : (Nat → Int32)) (c_rows : Int32) (c_columns : Int32) (k13 : Int32 → Int32 → Int32 → Int32 → Int32 → (Nat → Int32) → (Nat → Int32) → (Nat → Int32) → (Nat → Int32) → (Nat → Int32) → Int32 → Int32 → Option ((Nat → Int32) × Int32 × Int32)) : Option ((Nat → Int32) × Int32 × Int32) :=
  F10_laysGame_b139 z x1 x2 x3 x4 x5 c_told c_many c_eights c_gains c_game (c_rows + (1 : Int32)) c_columns k13
theorem T10_laysGame_b129 {X : xX} {c_thrown : Int32} {c_read : (Nat → Int32)} {c_notes : (Nat → Int32)} {c_seen : (Nat → Int32)} {c_turns : (Nat → Int32)} {c_drawn : (Nat → Int32)} {c_state : Int32} {c_tape : (Nat → Int32)} {c_taped : Int32} {c_size : Int32} {c_from : Int32} {c_next : Int32} {c_token : Int32} {c_value : Int32} {c_fault : Int32} {c_number : Int32} {c_fives : (Nat → Int32)} {c_isLeft : (Nat → Int32)} {c_wentTimes : Int32} {c_goes : (Nat → Int32)} {c_isLeftLaid : Int32} {c_isFound : Int32} {c_bestValue : Int64} {c_bestBelow : Int64} {c_bestShare : (Nat → Int64)} {c_share : (Nat → Int64)} {c_matrix : (Nat → Int64)} {c_system : (Nat → Int64)} {c_shares : (Nat → Int32)} {c_allShares : Int32} {x1 : Int32} {x2 : Int32} {x3 : Int32} {x4 : Int32} {x5 : Int32} {c_told : (Nat → Int32)} {c_many : (Nat → Int32)} {c_eights : (Nat → Int32)} {c_gains : (Nat → Int32)} {c_game : (Nat → Int32)} {c_rows : Int32} {c_columns : Int32} {z : Nat} {v : (Nat → Int32) × Int32 × Int32} {k13 : Int32 → Int32 → Int32 → Int32 → Int32 → (Nat → Int32) → (Nat → Int32) → (Nat → Int32) → (Nat → Int32) → (Nat → Int32) → Int32 → Int32 → Option ((Nat → Int32) × Int32 × Int32)} (hX : xIs (j10_laysGame) X none none (hM c_thrown c_told c_read c_many c_eights c_gains c_notes c_seen c_turns c_drawn c_state c_tape c_taped c_size c_from c_next c_token c_value c_fault c_number c_fives c_isLeft c_wentTimes c_goes c_isLeftLaid v.1 v.2.1 v.2.2 c_isFound c_bestValue c_bestBelow c_bestShare c_share c_matrix c_system c_shares c_allShares)) (hk13 : ∀ {x1 : Int32} {x2 : Int32} {x3 : Int32} {x4 : Int32} {x5 : Int32} {c_game : (Nat → Int32)} {c_rows : Int32} {c_columns : Int32}, k13 x1 x2 x3 x4 x5 c_told c_many c_eights c_gains c_game c_rows c_columns = some v → xV (j10_laysGame) X 0 0 (hM c_thrown c_told c_read c_many c_eights c_gains c_notes c_seen c_turns c_drawn c_state c_tape c_taped c_size c_from c_next c_token c_value c_fault c_number c_fives c_isLeft c_wentTimes c_goes c_isLeftLaid c_game c_rows c_columns c_isFound c_bestValue c_bestBelow c_bestShare c_share c_matrix c_system c_shares c_allShares) 13 [(0, .ref 0), (1, .int x1), (2, .int x2), (3, .int x3), (4, .int x4), (5, .int x5)] []) (hf : F10_laysGame_b129 z x1 x2 x3 x4 x5 c_told c_many c_eights c_gains c_game c_rows c_columns k13 = some v) : xV (j10_laysGame) X 0 0 (hM c_thrown c_told c_read c_many c_eights c_gains c_notes c_seen c_turns c_drawn c_state c_tape c_taped c_size c_from c_next c_token c_value c_fault c_number c_fives c_isLeft c_wentTimes c_goes c_isLeftLaid c_game c_rows c_columns c_isFound c_bestValue c_bestBelow c_bestShare c_share c_matrix c_system c_shares c_allShares) 129 [(0, .ref 0), (1, .int x1), (2, .int x2), (3, .int x3), (4, .int x4), (5, .int x5)] [] := by
  unfold F10_laysGame_b129 at hf
  refine xV_aload_n 130 rfl dX10_laysGame_129 rfl 0 rfl ?_
  refine xV_dup 131 rfl dX10_laysGame_130 rfl ?_
  refine xV_get (v := .int c_rows) 134 rfl dX10_laysGame_131 f10_253 rfl rfl ?_
  refine xV_iconst 135 rfl dX10_laysGame_134 xk_i1 ?_
  refine xV_iadd 136 rfl dX10_laysGame_135 ?_
  refine xV_put (h' := (hM c_thrown c_told c_read c_many c_eights c_gains c_notes c_seen c_turns c_drawn c_state c_tape c_taped c_size c_from c_next c_token c_value c_fault c_number c_fives c_isLeft c_wentTimes c_goes c_isLeftLaid c_game (c_rows + (1 : Int32)) c_columns c_isFound c_bestValue c_bestBelow c_bestShare c_share c_matrix c_system c_shares c_allShares)) 139 rfl dX10_laysGame_136 f10_253 rfl nf10_26 (fun _ => rfl) (fun _ => rfl) (Nat.le_of_ble_eq_true rfl) rfl ?_
  exact T10_laysGame_b139 hX hk13 hf
def F10_laysGame_b123 (z : Nat) (x1 : Int32) (x2 : Int32) (x3 : Int32) (x4 : Int32) (x5 : Int32) (x6 : Int32) (x7 : Int32) (c_told : (Nat → Int32)) (c_many : (Nat → Int32)) (c_eights : (Nat → Int32)) (c_gains : (Nat → Int32)) (c_game : (Nat → Int32)) (c_rows : Int32) (c_columns : Int32) (k13 : Int32 → Int32 → Int32 → Int32 → Int32 → (Nat → Int32) → (Nat → Int32) → (Nat → Int32) → (Nat → Int32) → (Nat → Int32) → Int32 → Int32 → Option ((Nat → Int32) × Int32 × Int32)) (k52 : Int32 → Int32 → Int32 → Int32 → Int32 → Int32 → Int32 → (Nat → Int32) → (Nat → Int32) → (Nat → Int32) → (Nat → Int32) → (Nat → Int32) → Int32 → Int32 → Option ((Nat → Int32) × Int32 × Int32)) : Option ((Nat → Int32) × Int32 × Int32) :=
  k52 x1 x2 x3 x4 x5 x6 (x7 + (1 : Int32)) c_told c_many c_eights c_gains c_game c_rows c_columns
theorem T10_laysGame_b123 {X : xX} {c_thrown : Int32} {c_read : (Nat → Int32)} {c_notes : (Nat → Int32)} {c_seen : (Nat → Int32)} {c_turns : (Nat → Int32)} {c_drawn : (Nat → Int32)} {c_state : Int32} {c_tape : (Nat → Int32)} {c_taped : Int32} {c_size : Int32} {c_from : Int32} {c_next : Int32} {c_token : Int32} {c_value : Int32} {c_fault : Int32} {c_number : Int32} {c_fives : (Nat → Int32)} {c_isLeft : (Nat → Int32)} {c_wentTimes : Int32} {c_goes : (Nat → Int32)} {c_isLeftLaid : Int32} {c_isFound : Int32} {c_bestValue : Int64} {c_bestBelow : Int64} {c_bestShare : (Nat → Int64)} {c_share : (Nat → Int64)} {c_matrix : (Nat → Int64)} {c_system : (Nat → Int64)} {c_shares : (Nat → Int32)} {c_allShares : Int32} {x1 : Int32} {x2 : Int32} {x3 : Int32} {x4 : Int32} {x5 : Int32} {x6 : Int32} {x7 : Int32} {c_told : (Nat → Int32)} {c_many : (Nat → Int32)} {c_eights : (Nat → Int32)} {c_gains : (Nat → Int32)} {c_game : (Nat → Int32)} {c_rows : Int32} {c_columns : Int32} {z : Nat} {v : (Nat → Int32) × Int32 × Int32} {k13 : Int32 → Int32 → Int32 → Int32 → Int32 → (Nat → Int32) → (Nat → Int32) → (Nat → Int32) → (Nat → Int32) → (Nat → Int32) → Int32 → Int32 → Option ((Nat → Int32) × Int32 × Int32)} {k52 : Int32 → Int32 → Int32 → Int32 → Int32 → Int32 → Int32 → (Nat → Int32) → (Nat → Int32) → (Nat → Int32) → (Nat → Int32) → (Nat → Int32) → Int32 → Int32 → Option ((Nat → Int32) × Int32 × Int32)} (hX : xIs (j10_laysGame) X none none (hM c_thrown c_told c_read c_many c_eights c_gains c_notes c_seen c_turns c_drawn c_state c_tape c_taped c_size c_from c_next c_token c_value c_fault c_number c_fives c_isLeft c_wentTimes c_goes c_isLeftLaid v.1 v.2.1 v.2.2 c_isFound c_bestValue c_bestBelow c_bestShare c_share c_matrix c_system c_shares c_allShares)) (hk13 : ∀ {x1 : Int32} {x2 : Int32} {x3 : Int32} {x4 : Int32} {x5 : Int32} {c_game : (Nat → Int32)} {c_rows : Int32} {c_columns : Int32}, k13 x1 x2 x3 x4 x5 c_told c_many c_eights c_gains c_game c_rows c_columns = some v → xV (j10_laysGame) X 0 0 (hM c_thrown c_told c_read c_many c_eights c_gains c_notes c_seen c_turns c_drawn c_state c_tape c_taped c_size c_from c_next c_token c_value c_fault c_number c_fives c_isLeft c_wentTimes c_goes c_isLeftLaid c_game c_rows c_columns c_isFound c_bestValue c_bestBelow c_bestShare c_share c_matrix c_system c_shares c_allShares) 13 [(0, .ref 0), (1, .int x1), (2, .int x2), (3, .int x3), (4, .int x4), (5, .int x5)] []) (hk52 : ∀ {x1 : Int32} {x2 : Int32} {x3 : Int32} {x4 : Int32} {x5 : Int32} {x6 : Int32} {x7 : Int32} {c_game : (Nat → Int32)} {c_rows : Int32} {c_columns : Int32}, k52 x1 x2 x3 x4 x5 x6 x7 c_told c_many c_eights c_gains c_game c_rows c_columns = some v → xV (j10_laysGame) X 0 0 (hM c_thrown c_told c_read c_many c_eights c_gains c_notes c_seen c_turns c_drawn c_state c_tape c_taped c_size c_from c_next c_token c_value c_fault c_number c_fives c_isLeft c_wentTimes c_goes c_isLeftLaid c_game c_rows c_columns c_isFound c_bestValue c_bestBelow c_bestShare c_share c_matrix c_system c_shares c_allShares) 52 [(0, .ref 0), (1, .int x1), (2, .int x2), (3, .int x3), (4, .int x4), (5, .int x5), (6, .int x6), (7, .int x7)] []) (hf : F10_laysGame_b123 z x1 x2 x3 x4 x5 x6 x7 c_told c_many c_eights c_gains c_game c_rows c_columns k13 k52 = some v) : xV (j10_laysGame) X 0 0 (hM c_thrown c_told c_read c_many c_eights c_gains c_notes c_seen c_turns c_drawn c_state c_tape c_taped c_size c_from c_next c_token c_value c_fault c_number c_fives c_isLeft c_wentTimes c_goes c_isLeftLaid c_game c_rows c_columns c_isFound c_bestValue c_bestBelow c_bestShare c_share c_matrix c_system c_shares c_allShares) 123 [(0, .ref 0), (1, .int x1), (2, .int x2), (3, .int x3), (4, .int x4), (5, .int x5), (6, .int x6), (7, .int x7)] [] := by
  unfold F10_laysGame_b123 at hf
  refine xV_iinc (L' := [(7, .int (x7 + (1 : Int32))), (0, .ref 0), (1, .int x1), (2, .int x2), (3, .int x3), (4, .int x4), (5, .int x5), (6, .int x6)]) 126 rfl dX10_laysGame_123 7 rfl (xk_inc xk_i1) (xlt rfl) rfl ?_
  refine xV_goto (tgt := 52) dX10_laysGame_126 (by decide) ?_
  refine xV_sub [1, 2, 3, 4, 5, 6, 7, 0] rfl ?_
  exact hk52 hf
def F10_laysGame_b52 (z : Nat) (w : Nat) (x1 : Int32) (x2 : Int32) (x3 : Int32) (x4 : Int32) (x5 : Int32) (x6 : Int32) (x7 : Int32) (c_told : (Nat → Int32)) (c_many : (Nat → Int32)) (c_eights : (Nat → Int32)) (c_gains : (Nat → Int32)) (c_game : (Nat → Int32)) (c_rows : Int32) (c_columns : Int32) (k13 : Int32 → Int32 → Int32 → Int32 → Int32 → (Nat → Int32) → (Nat → Int32) → (Nat → Int32) → (Nat → Int32) → (Nat → Int32) → Int32 → Int32 → Option ((Nat → Int32) × Int32 × Int32)) : Option ((Nat → Int32) × Int32 × Int32) := match w with
  | 0 => none
  | w + 1 => (F10_booked ((1 : Int32) - x1) c_told).bind (fun v58 => if (v58 + (1 : Int32)) ≤ x7 then (F10_laysGame_b129 z x1 x2 x3 x4 x5 c_told c_many c_eights c_gains c_game c_rows c_columns k13) else ((F10_memberOf z ((1 : Int32) - x1) x7 x2 x3 x4 c_told c_many c_eights).bind (fun v76 => if v76 = (-1 : Int32) then (F10_laysGame_b123 z x1 x2 x3 x4 x5 x6 x7 c_told c_many c_eights c_gains c_game c_rows c_columns k13 (fun q0 q1 q2 q3 q4 q5 q6 q7 q8 q9 q10 q11 q12 q13 => F10_laysGame_b52 z w q0 q1 q2 q3 q4 q5 q6 q7 q8 q9 q10 q11 q12 q13 k13)) else ((F10_gainFor x1 x6 v76 c_gains).bind (fun v109 => xg (xin (((8 : Int32) * c_rows) + c_columns) 64) (F10_laysGame_b123 z x1 x2 x3 x4 x5 x6 x7 c_told c_many c_eights c_gains (upd c_game (xn (((8 : Int32) * c_rows) + c_columns)) v109) c_rows (c_columns + (1 : Int32)) k13 (fun q0 q1 q2 q3 q4 q5 q6 q7 q8 q9 q10 q11 q12 q13 => F10_laysGame_b52 z w q0 q1 q2 q3 q4 q5 q6 q7 q8 q9 q10 q11 q12 q13 k13)))))))
theorem T10_laysGame_b52 {X : xX} {c_thrown : Int32} {c_told : (Nat → Int32)} {c_read : (Nat → Int32)} {c_many : (Nat → Int32)} {c_eights : (Nat → Int32)} {c_gains : (Nat → Int32)} {c_notes : (Nat → Int32)} {c_seen : (Nat → Int32)} {c_turns : (Nat → Int32)} {c_drawn : (Nat → Int32)} {c_state : Int32} {c_tape : (Nat → Int32)} {c_taped : Int32} {c_size : Int32} {c_from : Int32} {c_next : Int32} {c_token : Int32} {c_value : Int32} {c_fault : Int32} {c_number : Int32} {c_fives : (Nat → Int32)} {c_isLeft : (Nat → Int32)} {c_wentTimes : Int32} {c_goes : (Nat → Int32)} {c_isLeftLaid : Int32} {c_isFound : Int32} {c_bestValue : Int64} {c_bestBelow : Int64} {c_bestShare : (Nat → Int64)} {c_share : (Nat → Int64)} {c_matrix : (Nat → Int64)} {c_system : (Nat → Int64)} {c_shares : (Nat → Int32)} {c_allShares : Int32} {z : Nat} {v : (Nat → Int32) × Int32 × Int32} {k13 : Int32 → Int32 → Int32 → Int32 → Int32 → (Nat → Int32) → (Nat → Int32) → (Nat → Int32) → (Nat → Int32) → (Nat → Int32) → Int32 → Int32 → Option ((Nat → Int32) × Int32 × Int32)} (hX : xIs (j10_laysGame) X none none (hM c_thrown c_told c_read c_many c_eights c_gains c_notes c_seen c_turns c_drawn c_state c_tape c_taped c_size c_from c_next c_token c_value c_fault c_number c_fives c_isLeft c_wentTimes c_goes c_isLeftLaid v.1 v.2.1 v.2.2 c_isFound c_bestValue c_bestBelow c_bestShare c_share c_matrix c_system c_shares c_allShares)) (hk13 : ∀ {x1 : Int32} {x2 : Int32} {x3 : Int32} {x4 : Int32} {x5 : Int32} {c_game : (Nat → Int32)} {c_rows : Int32} {c_columns : Int32}, k13 x1 x2 x3 x4 x5 c_told c_many c_eights c_gains c_game c_rows c_columns = some v → xV (j10_laysGame) X 0 0 (hM c_thrown c_told c_read c_many c_eights c_gains c_notes c_seen c_turns c_drawn c_state c_tape c_taped c_size c_from c_next c_token c_value c_fault c_number c_fives c_isLeft c_wentTimes c_goes c_isLeftLaid c_game c_rows c_columns c_isFound c_bestValue c_bestBelow c_bestShare c_share c_matrix c_system c_shares c_allShares) 13 [(0, .ref 0), (1, .int x1), (2, .int x2), (3, .int x3), (4, .int x4), (5, .int x5)] []) : ∀ (w : Nat) {x1 : Int32} {x2 : Int32} {x3 : Int32} {x4 : Int32} {x5 : Int32} {x6 : Int32} {x7 : Int32} {c_game : (Nat → Int32)} {c_rows : Int32} {c_columns : Int32}, F10_laysGame_b52 z w x1 x2 x3 x4 x5 x6 x7 c_told c_many c_eights c_gains c_game c_rows c_columns k13 = some v → xV (j10_laysGame) X 0 0 (hM c_thrown c_told c_read c_many c_eights c_gains c_notes c_seen c_turns c_drawn c_state c_tape c_taped c_size c_from c_next c_token c_value c_fault c_number c_fives c_isLeft c_wentTimes c_goes c_isLeftLaid c_game c_rows c_columns c_isFound c_bestValue c_bestBelow c_bestShare c_share c_matrix c_system c_shares c_allShares) 52 [(0, .ref 0), (1, .int x1), (2, .int x2), (3, .int x3), (4, .int x4), (5, .int x5), (6, .int x6), (7, .int x7)] [] := by
  intro w
  induction w with
  | zero => intro x1 x2 x3 x4 x5 x6 x7 c_game c_rows c_columns hf; cases hf
  | succ w ih =>
    intro x1 x2 x3 x4 x5 x6 x7 c_game c_rows c_columns hf
    unfold F10_laysGame_b52 at hf
    refine xV_iload 54 rfl dX10_laysGame_52 7 rfl ?_
    refine xV_aload_n 55 rfl dX10_laysGame_54 rfl 0 rfl ?_
    refine xV_iconst 56 rfl dX10_laysGame_55 xk_i1 ?_
    refine xV_iload_n 57 rfl dX10_laysGame_56 rfl 1 rfl ?_
    refine xV_isub 58 rfl dX10_laysGame_57 ?_
    obtain ⟨v58, hv58, hf⟩ := xb_s hf
    refine xV_same (rest := [.int x7]) 61 rfl dX10_laysGame_58 rfl (C10_booked X.1.2.1 hv58) m10_booked v10_booked k10_259 rfl rfl rfl rfl rfl (Nat.le_of_ble_eq_true rfl) (Nat.le_of_ble_eq_true rfl) (Nat.le_of_ble_eq_true rfl) ⟨Nat.le_refl _, Nat.le_refl _⟩ ?_
    show xV (j10_laysGame) X 0 0 (hM c_thrown c_told c_read c_many c_eights c_gains c_notes c_seen c_turns c_drawn c_state c_tape c_taped c_size c_from c_next c_token c_value c_fault c_number c_fives c_isLeft c_wentTimes c_goes c_isLeftLaid c_game c_rows c_columns c_isFound c_bestValue c_bestBelow c_bestShare c_share c_matrix c_system c_shares c_allShares) 61 [(0, .ref 0), (1, .int x1), (2, .int x2), (3, .int x3), (4, .int x4), (5, .int x5), (6, .int x6), (7, .int x7)] [.int v58, .int x7]
    refine xV_iconst 62 rfl dX10_laysGame_61 xk_i1 ?_
    refine xV_iadd 63 rfl dX10_laysGame_62 ?_
    refine xV_icmp_ge (tgt := 129) 66 rfl dX10_laysGame_63 (by decide) (fun h63 => ?_) (fun h63 => ?_)
    · have hf := xif_t hf h63
      refine xV_sub [0, 1, 2, 3, 4, 5] rfl ?_
      exact T10_laysGame_b129 hX hk13 hf
    · have hf := xif_f hf h63
      refine xV_aload_n 67 rfl dX10_laysGame_66 rfl 0 rfl ?_
      refine xV_iconst 68 rfl dX10_laysGame_67 xk_i1 ?_
      refine xV_iload_n 69 rfl dX10_laysGame_68 rfl 1 rfl ?_
      refine xV_isub 70 rfl dX10_laysGame_69 ?_
      refine xV_iload 72 rfl dX10_laysGame_70 7 rfl ?_
      refine xV_iload_n 73 rfl dX10_laysGame_72 rfl 2 rfl ?_
      refine xV_iload_n 74 rfl dX10_laysGame_73 rfl 3 rfl ?_
      refine xV_iload 76 rfl dX10_laysGame_74 4 rfl ?_
      obtain ⟨v76, hv76, hf⟩ := xb_s hf
      refine xV_same (rest := []) 79 rfl dX10_laysGame_76 rfl (C10_memberOf X.1.2.1 hv76) m10_memberOf v10_memberOf k10_262 rfl rfl rfl rfl rfl (Nat.le_of_ble_eq_true rfl) (Nat.le_of_ble_eq_true rfl) (Nat.le_of_ble_eq_true rfl) ⟨Nat.le_refl _, Nat.le_refl _⟩ ?_
      show xV (j10_laysGame) X 0 0 (hM c_thrown c_told c_read c_many c_eights c_gains c_notes c_seen c_turns c_drawn c_state c_tape c_taped c_size c_from c_next c_token c_value c_fault c_number c_fives c_isLeft c_wentTimes c_goes c_isLeftLaid c_game c_rows c_columns c_isFound c_bestValue c_bestBelow c_bestShare c_share c_matrix c_system c_shares c_allShares) 79 [(0, .ref 0), (1, .int x1), (2, .int x2), (3, .int x3), (4, .int x4), (5, .int x5), (6, .int x6), (7, .int x7)] [.int v76]
      refine xV_istore (L' := [(8, .int v76), (0, .ref 0), (1, .int x1), (2, .int x2), (3, .int x3), (4, .int x4), (5, .int x5), (6, .int x6), (7, .int x7)]) 81 rfl dX10_laysGame_79 (xlt rfl) rfl ?_
      refine xV_iload 83 rfl dX10_laysGame_81 0 rfl ?_
      refine xV_iconst 84 rfl dX10_laysGame_83 xk_im1 ?_
      refine xV_icmp_eq (tgt := 123) 87 rfl dX10_laysGame_84 (by decide) (fun h84 => ?_) (fun h84 => ?_)
      · have hf := xif_t hf h84
        refine xV_sub [1, 2, 3, 4, 5, 6, 7, 8] rfl ?_
        exact T10_laysGame_b123 hX hk13 (fun {_ _ _ _ _ _ _ _ _ _} hq => ih hq) hf
      · have hf := xif_f hf h84
        refine xV_aload_n 88 rfl dX10_laysGame_87 rfl 1 rfl ?_
        refine xV_get (v := .ref 14) 91 rfl dX10_laysGame_88 f10_60 rfl rfl ?_
        refine xV_bipush 93 rfl dX10_laysGame_91 xk_b8 ?_
        refine xV_aload_n 94 rfl dX10_laysGame_93 rfl 1 rfl ?_
        refine xV_get (v := .int c_rows) 97 rfl dX10_laysGame_94 f10_253 rfl rfl ?_
        refine xV_imul 98 rfl dX10_laysGame_97 ?_
        refine xV_aload_n 99 rfl dX10_laysGame_98 rfl 1 rfl ?_
        refine xV_get (v := .int c_columns) 102 rfl dX10_laysGame_99 f10_256 rfl rfl ?_
        refine xV_iadd 103 rfl dX10_laysGame_102 ?_
        refine xV_aload_n 104 rfl dX10_laysGame_103 rfl 1 rfl ?_
        refine xV_iload_n 105 rfl dX10_laysGame_104 rfl 2 rfl ?_
        refine xV_iload 107 rfl dX10_laysGame_105 7 rfl ?_
        refine xV_iload 109 rfl dX10_laysGame_107 0 rfl ?_
        obtain ⟨v109, hv109, hf⟩ := xb_s hf
        refine xV_same (rest := [.int (((8 : Int32) * c_rows) + c_columns), .ref 14]) 112 rfl dX10_laysGame_109 rfl (C10_gainFor X.1.2.1 hv109) m10_gainFor v10_gainFor k10_233 rfl rfl rfl rfl rfl (Nat.le_of_ble_eq_true rfl) (Nat.le_of_ble_eq_true rfl) (Nat.le_of_ble_eq_true rfl) ⟨Nat.le_refl _, Nat.le_refl _⟩ ?_
        show xV (j10_laysGame) X 0 0 (hM c_thrown c_told c_read c_many c_eights c_gains c_notes c_seen c_turns c_drawn c_state c_tape c_taped c_size c_from c_next c_token c_value c_fault c_number c_fives c_isLeft c_wentTimes c_goes c_isLeftLaid c_game c_rows c_columns c_isFound c_bestValue c_bestBelow c_bestShare c_share c_matrix c_system c_shares c_allShares) 112 [(8, .int v76), (0, .ref 0), (1, .int x1), (2, .int x2), (3, .int x3), (4, .int x4), (5, .int x5), (6, .int x6), (7, .int x7)] [.int v109, .int (((8 : Int32) * c_rows) + c_columns), .ref 14]
        obtain ⟨hg112, hf⟩ := xg_s hf
        refine xV_iastore (h' := (hM c_thrown c_told c_read c_many c_eights c_gains c_notes c_seen c_turns c_drawn c_state c_tape c_taped c_size c_from c_next c_token c_value c_fault c_number c_fives c_isLeft c_wentTimes c_goes c_isLeftLaid (upd c_game (xn (((8 : Int32) * c_rows) + c_columns)) v109) c_rows c_columns c_isFound c_bestValue c_bestBelow c_bestShare c_share c_matrix c_system c_shares c_allShares)) 113 rfl dX10_laysGame_112 rfl (xin_ok hg112) rfl rfl ?_
        refine xV_aload_n 114 rfl dX10_laysGame_113 rfl 1 rfl ?_
        refine xV_dup 115 rfl dX10_laysGame_114 rfl ?_
        refine xV_get (v := .int c_columns) 118 rfl dX10_laysGame_115 f10_256 rfl rfl ?_
        refine xV_iconst 119 rfl dX10_laysGame_118 xk_i1 ?_
        refine xV_iadd 120 rfl dX10_laysGame_119 ?_
        refine xV_put (h' := (hM c_thrown c_told c_read c_many c_eights c_gains c_notes c_seen c_turns c_drawn c_state c_tape c_taped c_size c_from c_next c_token c_value c_fault c_number c_fives c_isLeft c_wentTimes c_goes c_isLeftLaid (upd c_game (xn (((8 : Int32) * c_rows) + c_columns)) v109) c_rows (c_columns + (1 : Int32)) c_isFound c_bestValue c_bestBelow c_bestShare c_share c_matrix c_system c_shares c_allShares)) 123 rfl dX10_laysGame_120 f10_256 rfl nf10_27 (fun _ => rfl) (fun _ => rfl) (Nat.le_of_ble_eq_true rfl) rfl ?_
        refine xV_sub [1, 2, 3, 4, 5, 6, 7, 8] rfl ?_
        exact T10_laysGame_b123 hX hk13 (fun {_ _ _ _ _ _ _ _ _ _} hq => ih hq) hf
def F10_laysGame_b13 (z : Nat) (w : Nat) (x1 : Int32) (x2 : Int32) (x3 : Int32) (x4 : Int32) (x5 : Int32) (c_told : (Nat → Int32)) (c_many : (Nat → Int32)) (c_eights : (Nat → Int32)) (c_gains : (Nat → Int32)) (c_game : (Nat → Int32)) (c_rows : Int32) (c_columns : Int32) : Option ((Nat → Int32) × Int32 × Int32) := match w with
  | 0 => none
  | w + 1 => (F10_booked x1 c_told).bind (fun v17 => if (v17 + (1 : Int32)) ≤ x5 then (some (c_game, c_rows, c_columns)) else ((F10_memberOf z x1 x5 x2 x3 x4 c_told c_many c_eights).bind (fun v33 => if v33 = (-1 : Int32) then (F10_laysGame_b139 z x1 x2 x3 x4 x5 c_told c_many c_eights c_gains c_game c_rows c_columns (fun q0 q1 q2 q3 q4 q5 q6 q7 q8 q9 q10 q11 => F10_laysGame_b13 z w q0 q1 q2 q3 q4 q5 q6 q7 q8 q9 q10 q11)) else (F10_laysGame_b52 z z x1 x2 x3 x4 x5 v33 (0 : Int32) c_told c_many c_eights c_gains c_game c_rows (0 : Int32) (fun q0 q1 q2 q3 q4 q5 q6 q7 q8 q9 q10 q11 => F10_laysGame_b13 z w q0 q1 q2 q3 q4 q5 q6 q7 q8 q9 q10 q11)))))
theorem T10_laysGame_b13 {X : xX} {c_thrown : Int32} {c_told : (Nat → Int32)} {c_read : (Nat → Int32)} {c_many : (Nat → Int32)} {c_eights : (Nat → Int32)} {c_gains : (Nat → Int32)} {c_notes : (Nat → Int32)} {c_seen : (Nat → Int32)} {c_turns : (Nat → Int32)} {c_drawn : (Nat → Int32)} {c_state : Int32} {c_tape : (Nat → Int32)} {c_taped : Int32} {c_size : Int32} {c_from : Int32} {c_next : Int32} {c_token : Int32} {c_value : Int32} {c_fault : Int32} {c_number : Int32} {c_fives : (Nat → Int32)} {c_isLeft : (Nat → Int32)} {c_wentTimes : Int32} {c_goes : (Nat → Int32)} {c_isLeftLaid : Int32} {c_isFound : Int32} {c_bestValue : Int64} {c_bestBelow : Int64} {c_bestShare : (Nat → Int64)} {c_share : (Nat → Int64)} {c_matrix : (Nat → Int64)} {c_system : (Nat → Int64)} {c_shares : (Nat → Int32)} {c_allShares : Int32} {z : Nat} {v : (Nat → Int32) × Int32 × Int32} (hX : xIs (j10_laysGame) X none none (hM c_thrown c_told c_read c_many c_eights c_gains c_notes c_seen c_turns c_drawn c_state c_tape c_taped c_size c_from c_next c_token c_value c_fault c_number c_fives c_isLeft c_wentTimes c_goes c_isLeftLaid v.1 v.2.1 v.2.2 c_isFound c_bestValue c_bestBelow c_bestShare c_share c_matrix c_system c_shares c_allShares)) : ∀ (w : Nat) {x1 : Int32} {x2 : Int32} {x3 : Int32} {x4 : Int32} {x5 : Int32} {c_game : (Nat → Int32)} {c_rows : Int32} {c_columns : Int32}, F10_laysGame_b13 z w x1 x2 x3 x4 x5 c_told c_many c_eights c_gains c_game c_rows c_columns = some v → xV (j10_laysGame) X 0 0 (hM c_thrown c_told c_read c_many c_eights c_gains c_notes c_seen c_turns c_drawn c_state c_tape c_taped c_size c_from c_next c_token c_value c_fault c_number c_fives c_isLeft c_wentTimes c_goes c_isLeftLaid c_game c_rows c_columns c_isFound c_bestValue c_bestBelow c_bestShare c_share c_matrix c_system c_shares c_allShares) 13 [(0, .ref 0), (1, .int x1), (2, .int x2), (3, .int x3), (4, .int x4), (5, .int x5)] [] := by
  intro w
  induction w with
  | zero => intro x1 x2 x3 x4 x5 c_game c_rows c_columns hf; cases hf
  | succ w ih =>
    intro x1 x2 x3 x4 x5 c_game c_rows c_columns hf
    unfold F10_laysGame_b13 at hf
    refine xV_iload 15 rfl dX10_laysGame_13 5 rfl ?_
    refine xV_aload_n 16 rfl dX10_laysGame_15 rfl 0 rfl ?_
    refine xV_iload_n 17 rfl dX10_laysGame_16 rfl 1 rfl ?_
    obtain ⟨v17, hv17, hf⟩ := xb_s hf
    refine xV_same (rest := [.int x5]) 20 rfl dX10_laysGame_17 rfl (C10_booked X.1.2.1 hv17) m10_booked v10_booked k10_259 rfl rfl rfl rfl rfl (Nat.le_of_ble_eq_true rfl) (Nat.le_of_ble_eq_true rfl) (Nat.le_of_ble_eq_true rfl) ⟨Nat.le_refl _, Nat.le_refl _⟩ ?_
    show xV (j10_laysGame) X 0 0 (hM c_thrown c_told c_read c_many c_eights c_gains c_notes c_seen c_turns c_drawn c_state c_tape c_taped c_size c_from c_next c_token c_value c_fault c_number c_fives c_isLeft c_wentTimes c_goes c_isLeftLaid c_game c_rows c_columns c_isFound c_bestValue c_bestBelow c_bestShare c_share c_matrix c_system c_shares c_allShares) 20 [(0, .ref 0), (1, .int x1), (2, .int x2), (3, .int x3), (4, .int x4), (5, .int x5)] [.int v17, .int x5]
    refine xV_iconst 21 rfl dX10_laysGame_20 xk_i1 ?_
    refine xV_iadd 22 rfl dX10_laysGame_21 ?_
    refine xV_icmp_ge (tgt := 145) 25 rfl dX10_laysGame_22 (by decide) (fun h22 => ?_) (fun h22 => ?_)
    · have hf := xif_t hf h22
      obtain rfl := Option.some.inj hf
      exact xV_vret hX dX10_laysGame_145 (Nat.zero_le _) (Nat.zero_le _)
    · have hf := xif_f hf h22
      refine xV_aload_n 26 rfl dX10_laysGame_25 rfl 0 rfl ?_
      refine xV_iload_n 27 rfl dX10_laysGame_26 rfl 1 rfl ?_
      refine xV_iload 29 rfl dX10_laysGame_27 5 rfl ?_
      refine xV_iload_n 30 rfl dX10_laysGame_29 rfl 2 rfl ?_
      refine xV_iload_n 31 rfl dX10_laysGame_30 rfl 3 rfl ?_
      refine xV_iload 33 rfl dX10_laysGame_31 4 rfl ?_
      obtain ⟨v33, hv33, hf⟩ := xb_s hf
      refine xV_same (rest := []) 36 rfl dX10_laysGame_33 rfl (C10_memberOf X.1.2.1 hv33) m10_memberOf v10_memberOf k10_262 rfl rfl rfl rfl rfl (Nat.le_of_ble_eq_true rfl) (Nat.le_of_ble_eq_true rfl) (Nat.le_of_ble_eq_true rfl) ⟨Nat.le_refl _, Nat.le_refl _⟩ ?_
      show xV (j10_laysGame) X 0 0 (hM c_thrown c_told c_read c_many c_eights c_gains c_notes c_seen c_turns c_drawn c_state c_tape c_taped c_size c_from c_next c_token c_value c_fault c_number c_fives c_isLeft c_wentTimes c_goes c_isLeftLaid c_game c_rows c_columns c_isFound c_bestValue c_bestBelow c_bestShare c_share c_matrix c_system c_shares c_allShares) 36 [(0, .ref 0), (1, .int x1), (2, .int x2), (3, .int x3), (4, .int x4), (5, .int x5)] [.int v33]
      refine xV_istore (L' := [(6, .int v33), (0, .ref 0), (1, .int x1), (2, .int x2), (3, .int x3), (4, .int x4), (5, .int x5)]) 38 rfl dX10_laysGame_36 (xlt rfl) rfl ?_
      refine xV_iload 40 rfl dX10_laysGame_38 0 rfl ?_
      refine xV_iconst 41 rfl dX10_laysGame_40 xk_im1 ?_
      refine xV_icmp_eq (tgt := 139) 44 rfl dX10_laysGame_41 (by decide) (fun h41 => ?_) (fun h41 => ?_)
      · have hf := xif_t hf h41
        refine xV_sub [1, 2, 3, 4, 5, 6] rfl ?_
        exact T10_laysGame_b139 hX (fun {_ _ _ _ _ _ _ _} hq => ih hq) hf
      · have hf := xif_f hf h41
        refine xV_aload_n 45 rfl dX10_laysGame_44 rfl 1 rfl ?_
        refine xV_iconst 46 rfl dX10_laysGame_45 xk_i0 ?_
        refine xV_put (h' := (hM c_thrown c_told c_read c_many c_eights c_gains c_notes c_seen c_turns c_drawn c_state c_tape c_taped c_size c_from c_next c_token c_value c_fault c_number c_fives c_isLeft c_wentTimes c_goes c_isLeftLaid c_game c_rows (0 : Int32) c_isFound c_bestValue c_bestBelow c_bestShare c_share c_matrix c_system c_shares c_allShares)) 49 rfl dX10_laysGame_46 f10_256 rfl nf10_27 (fun _ => rfl) (fun _ => rfl) (Nat.le_of_ble_eq_true rfl) rfl ?_
        refine xV_iconst 50 rfl dX10_laysGame_49 xk_i0 ?_
        refine xV_istore (L' := [(7, .int (0 : Int32)), (6, .int v33), (0, .ref 0), (1, .int x1), (2, .int x2), (3, .int x3), (4, .int x4), (5, .int x5)]) 52 rfl dX10_laysGame_50 (xlt rfl) rfl ?_
        refine xV_sub [2, 3, 4, 5, 6, 7, 1, 0] rfl ?_
        exact T10_laysGame_b52 hX (fun {_ _ _ _ _ _ _ _} hq => ih hq) _ hf
def F10_laysGame (z : Nat) (x1 : Int32) (x2 : Int32) (x3 : Int32) (x4 : Int32) (c_told : (Nat → Int32)) (c_many : (Nat → Int32)) (c_eights : (Nat → Int32)) (c_gains : (Nat → Int32)) (c_game : (Nat → Int32)) (c_rows : Int32) (c_columns : Int32) : Option ((Nat → Int32) × Int32 × Int32) :=
  F10_laysGame_b13 z z x1 x2 x3 x4 (0 : Int32) c_told c_many c_eights c_gains c_game (0 : Int32) (0 : Int32)
theorem T10_laysGame {X : xX} {z : Nat} {x1 : Int32} {x2 : Int32} {x3 : Int32} {x4 : Int32} {c_told : (Nat → Int32)} {c_many : (Nat → Int32)} {c_eights : (Nat → Int32)} {c_gains : (Nat → Int32)} {c_game : (Nat → Int32)} {c_rows : Int32} {c_columns : Int32} {c_thrown : Int32} {c_read : (Nat → Int32)} {c_notes : (Nat → Int32)} {c_seen : (Nat → Int32)} {c_turns : (Nat → Int32)} {c_drawn : (Nat → Int32)} {c_state : Int32} {c_tape : (Nat → Int32)} {c_taped : Int32} {c_size : Int32} {c_from : Int32} {c_next : Int32} {c_token : Int32} {c_value : Int32} {c_fault : Int32} {c_number : Int32} {c_fives : (Nat → Int32)} {c_isLeft : (Nat → Int32)} {c_wentTimes : Int32} {c_goes : (Nat → Int32)} {c_isLeftLaid : Int32} {c_isFound : Int32} {c_bestValue : Int64} {c_bestBelow : Int64} {c_bestShare : (Nat → Int64)} {c_share : (Nat → Int64)} {c_matrix : (Nat → Int64)} {c_system : (Nat → Int64)} {c_shares : (Nat → Int32)} {c_allShares : Int32} {v : (Nat → Int32) × Int32 × Int32} (hX : xIs (j10_laysGame) X none none (hM c_thrown c_told c_read c_many c_eights c_gains c_notes c_seen c_turns c_drawn c_state c_tape c_taped c_size c_from c_next c_token c_value c_fault c_number c_fives c_isLeft c_wentTimes c_goes c_isLeftLaid v.1 v.2.1 v.2.2 c_isFound c_bestValue c_bestBelow c_bestShare c_share c_matrix c_system c_shares c_allShares)) (hf : F10_laysGame z x1 x2 x3 x4 c_told c_many c_eights c_gains c_game c_rows c_columns = some v) : xV (j10_laysGame) X 0 0 (hM c_thrown c_told c_read c_many c_eights c_gains c_notes c_seen c_turns c_drawn c_state c_tape c_taped c_size c_from c_next c_token c_value c_fault c_number c_fives c_isLeft c_wentTimes c_goes c_isLeftLaid c_game c_rows c_columns c_isFound c_bestValue c_bestBelow c_bestShare c_share c_matrix c_system c_shares c_allShares) 0 [(0, .ref 0), (1, .int x1), (2, .int x2), (3, .int x3), (4, .int x4)] [] := by
  unfold F10_laysGame at hf
  refine xV_aload_n 1 rfl dX10_laysGame_0 rfl 0 rfl ?_
  refine xV_iconst 2 rfl dX10_laysGame_1 xk_i0 ?_
  refine xV_put (h' := (hM c_thrown c_told c_read c_many c_eights c_gains c_notes c_seen c_turns c_drawn c_state c_tape c_taped c_size c_from c_next c_token c_value c_fault c_number c_fives c_isLeft c_wentTimes c_goes c_isLeftLaid c_game (0 : Int32) c_columns c_isFound c_bestValue c_bestBelow c_bestShare c_share c_matrix c_system c_shares c_allShares)) 5 rfl dX10_laysGame_2 f10_253 rfl nf10_26 (fun _ => rfl) (fun _ => rfl) (Nat.le_of_ble_eq_true rfl) rfl ?_
  refine xV_aload_n 6 rfl dX10_laysGame_5 rfl 0 rfl ?_
  refine xV_iconst 7 rfl dX10_laysGame_6 xk_i0 ?_
  refine xV_put (h' := (hM c_thrown c_told c_read c_many c_eights c_gains c_notes c_seen c_turns c_drawn c_state c_tape c_taped c_size c_from c_next c_token c_value c_fault c_number c_fives c_isLeft c_wentTimes c_goes c_isLeftLaid c_game (0 : Int32) (0 : Int32) c_isFound c_bestValue c_bestBelow c_bestShare c_share c_matrix c_system c_shares c_allShares)) 10 rfl dX10_laysGame_7 f10_256 rfl nf10_27 (fun _ => rfl) (fun _ => rfl) (Nat.le_of_ble_eq_true rfl) rfl ?_
  refine xV_iconst 11 rfl dX10_laysGame_10 xk_i0 ?_
  refine xV_istore (L' := [(5, .int (0 : Int32)), (0, .ref 0), (1, .int x1), (2, .int x2), (3, .int x3), (4, .int x4)]) 13 rfl dX10_laysGame_11 (xlt rfl) rfl ?_
  refine xV_sub [1, 2, 3, 4, 5, 0] rfl ?_
  exact T10_laysGame_b13 hX _ hf
theorem C10_laysGame (l : Launch) {z : Nat} {x1 : Int32} {x2 : Int32} {x3 : Int32} {x4 : Int32} {c_told : (Nat → Int32)} {c_many : (Nat → Int32)} {c_eights : (Nat → Int32)} {c_gains : (Nat → Int32)} {c_game : (Nat → Int32)} {c_rows : Int32} {c_columns : Int32} {c_thrown : Int32} {c_read : (Nat → Int32)} {c_notes : (Nat → Int32)} {c_seen : (Nat → Int32)} {c_turns : (Nat → Int32)} {c_drawn : (Nat → Int32)} {c_state : Int32} {c_tape : (Nat → Int32)} {c_taped : Int32} {c_size : Int32} {c_from : Int32} {c_next : Int32} {c_token : Int32} {c_value : Int32} {c_fault : Int32} {c_number : Int32} {c_fives : (Nat → Int32)} {c_isLeft : (Nat → Int32)} {c_wentTimes : Int32} {c_goes : (Nat → Int32)} {c_isLeftLaid : Int32} {c_isFound : Int32} {c_bestValue : Int64} {c_bestBelow : Int64} {c_bestShare : (Nat → Int64)} {c_share : (Nat → Int64)} {c_matrix : (Nat → Int64)} {c_system : (Nat → Int64)} {c_shares : (Nat → Int32)} {c_allShares : Int32} {v : (Nat → Int32) × Int32 × Int32} (hf : F10_laysGame z x1 x2 x3 x4 c_told c_many c_eights c_gains c_game c_rows c_columns = some v) : xCt l yX10_laysGame none j10_laysGame [.ref 0, .int x1, .int x2, .int x3, .int x4] (hM c_thrown c_told c_read c_many c_eights c_gains c_notes c_seen c_turns c_drawn c_state c_tape c_taped c_size c_from c_next c_token c_value c_fault c_number c_fives c_isLeft c_wentTimes c_goes c_isLeftLaid c_game c_rows c_columns c_isFound c_bestValue c_bestBelow c_bestShare c_share c_matrix c_system c_shares c_allShares) none (hM c_thrown c_told c_read c_many c_eights c_gains c_notes c_seen c_turns c_drawn c_state c_tape c_taped c_size c_from c_next c_token c_value c_fault c_number c_fives c_isLeft c_wentTimes c_goes c_isLeftLaid v.1 v.2.1 v.2.2 c_isFound c_bestValue c_bestBelow c_bestShare c_share c_matrix c_system c_shares c_allShares) := xCt_of (by decide) rfl (Nat.le_of_ble_eq_true rfl) (fun _ hX => T10_laysGame hX hf)
theorem m10_laysGame : xMd yX10_laysGame RX10 none j10_laysGame 4 := ⟨List.mem_of_getElem? (i := 932) (by decide +kernel), List.mem_of_getElem? (i := 5) (by decide +kernel), rfl, by decide +kernel⟩
theorem v10_laysGame : xMv yX10_laysGame RX10 := ⟨List.mem_of_getElem? (i := 930) (by decide +kernel), List.mem_of_getElem? (i := 931) (by decide +kernel)⟩
theorem f10_70 : xFl RX10 70 10 33 := ⟨_, rfl, by decide, List.mem_of_getElem? (i := 141) (by decide +kernel)⟩
theorem dX10_swaps_0 : decode cX10_swaps 0 = .ok (.iconst 0, 1) := by decide +kernel
theorem dX10_swaps_1 : decode cX10_swaps 1 = .ok (.istore_n 3, 1) := by decide +kernel
theorem dX10_swaps_2 : decode cX10_swaps 2 = .ok (.iload_n 3, 1) := by decide +kernel
theorem dX10_swaps_3 : decode cX10_swaps 3 = .ok (.bipush 8, 2) := by decide +kernel
theorem dX10_swaps_5 : decode cX10_swaps 5 = .ok (.if_icmp .ge 57, 3) := by decide +kernel
theorem dX10_swaps_8 : decode cX10_swaps 8 = .ok (.aload_n 0, 1) := by decide +kernel
theorem dX10_swaps_9 : decode cX10_swaps 9 = .ok (.getfield 70, 3) := by decide +kernel
theorem dX10_swaps_12 : decode cX10_swaps 12 = .ok (.bipush 8, 2) := by decide +kernel
theorem dX10_swaps_14 : decode cX10_swaps 14 = .ok (.iload_n 1, 1) := by decide +kernel
theorem dX10_swaps_15 : decode cX10_swaps 15 = .ok (.imul, 1) := by decide +kernel
theorem dX10_swaps_16 : decode cX10_swaps 16 = .ok (.iload_n 3, 1) := by decide +kernel
theorem dX10_swaps_17 : decode cX10_swaps 17 = .ok (.iadd, 1) := by decide +kernel
theorem dX10_swaps_18 : decode cX10_swaps 18 = .ok (.laload, 1) := by decide +kernel
theorem dX10_swaps_19 : decode cX10_swaps 19 = .ok (.lstore 4, 2) := by decide +kernel
theorem dX10_swaps_21 : decode cX10_swaps 21 = .ok (.aload_n 0, 1) := by decide +kernel
theorem dX10_swaps_22 : decode cX10_swaps 22 = .ok (.getfield 70, 3) := by decide +kernel
theorem dX10_swaps_25 : decode cX10_swaps 25 = .ok (.bipush 8, 2) := by decide +kernel
theorem dX10_swaps_27 : decode cX10_swaps 27 = .ok (.iload_n 1, 1) := by decide +kernel
theorem dX10_swaps_28 : decode cX10_swaps 28 = .ok (.imul, 1) := by decide +kernel
theorem dX10_swaps_29 : decode cX10_swaps 29 = .ok (.iload_n 3, 1) := by decide +kernel
theorem dX10_swaps_30 : decode cX10_swaps 30 = .ok (.iadd, 1) := by decide +kernel
theorem dX10_swaps_31 : decode cX10_swaps 31 = .ok (.aload_n 0, 1) := by decide +kernel
theorem dX10_swaps_32 : decode cX10_swaps 32 = .ok (.getfield 70, 3) := by decide +kernel
theorem dX10_swaps_35 : decode cX10_swaps 35 = .ok (.bipush 8, 2) := by decide +kernel
theorem dX10_swaps_37 : decode cX10_swaps 37 = .ok (.iload_n 2, 1) := by decide +kernel
theorem dX10_swaps_38 : decode cX10_swaps 38 = .ok (.imul, 1) := by decide +kernel
theorem dX10_swaps_39 : decode cX10_swaps 39 = .ok (.iload_n 3, 1) := by decide +kernel
theorem dX10_swaps_40 : decode cX10_swaps 40 = .ok (.iadd, 1) := by decide +kernel
theorem dX10_swaps_41 : decode cX10_swaps 41 = .ok (.laload, 1) := by decide +kernel
theorem dX10_swaps_42 : decode cX10_swaps 42 = .ok (.lastore, 1) := by decide +kernel
theorem dX10_swaps_43 : decode cX10_swaps 43 = .ok (.aload_n 0, 1) := by decide +kernel
theorem dX10_swaps_44 : decode cX10_swaps 44 = .ok (.getfield 70, 3) := by decide +kernel
theorem dX10_swaps_47 : decode cX10_swaps 47 = .ok (.bipush 8, 2) := by decide +kernel
theorem dX10_swaps_49 : decode cX10_swaps 49 = .ok (.iload_n 2, 1) := by decide +kernel
theorem dX10_swaps_50 : decode cX10_swaps 50 = .ok (.imul, 1) := by decide +kernel
theorem dX10_swaps_51 : decode cX10_swaps 51 = .ok (.iload_n 3, 1) := by decide +kernel
theorem dX10_swaps_52 : decode cX10_swaps 52 = .ok (.iadd, 1) := by decide +kernel
theorem dX10_swaps_53 : decode cX10_swaps 53 = .ok (.lload 4, 2) := by decide +kernel
theorem dX10_swaps_55 : decode cX10_swaps 55 = .ok (.lastore, 1) := by decide +kernel
theorem dX10_swaps_56 : decode cX10_swaps 56 = .ok (.iinc 3 1, 3) := by decide +kernel
theorem dX10_swaps_59 : decode cX10_swaps 59 = .ok (.goto (-57), 3) := by decide +kernel
theorem dX10_swaps_62 : decode cX10_swaps 62 = .ok (.return_, 1) := by decide +kernel
abbrev j10_swaps : xJ := (cX10_swaps, 6, RX10, 1, 0, 0)
def F10_swaps_b2 (z : Nat) (w : Nat) (x1 : Int32) (x2 : Int32) (x3 : Int32) (c_matrix : (Nat → Int64)) : Option ((Nat → Int64)) := match w with
  | 0 => none
  | w + 1 => if (8 : Int32) ≤ x3 then (some (c_matrix)) else (xg (xin (((8 : Int32) * x1) + x3) 64) (xg (xin (((8 : Int32) * x2) + x3) 64) (xg (xin (((8 : Int32) * x1) + x3) 64) (xg (xin (((8 : Int32) * x2) + x3) 64) (F10_swaps_b2 z w x1 x2 (x3 + (1 : Int32)) (vp_updL (vp_updL c_matrix (xn (((8 : Int32) * x1) + x3)) (c_matrix (xn (((8 : Int32) * x2) + x3)))) (xn (((8 : Int32) * x2) + x3)) (c_matrix (xn (((8 : Int32) * x1) + x3)))))))))
theorem T10_swaps_b2 {X : xX} {c_thrown : Int32} {c_told : (Nat → Int32)} {c_read : (Nat → Int32)} {c_many : (Nat → Int32)} {c_eights : (Nat → Int32)} {c_gains : (Nat → Int32)} {c_notes : (Nat → Int32)} {c_seen : (Nat → Int32)} {c_turns : (Nat → Int32)} {c_drawn : (Nat → Int32)} {c_state : Int32} {c_tape : (Nat → Int32)} {c_taped : Int32} {c_size : Int32} {c_from : Int32} {c_next : Int32} {c_token : Int32} {c_value : Int32} {c_fault : Int32} {c_number : Int32} {c_fives : (Nat → Int32)} {c_isLeft : (Nat → Int32)} {c_wentTimes : Int32} {c_goes : (Nat → Int32)} {c_isLeftLaid : Int32} {c_game : (Nat → Int32)} {c_rows : Int32} {c_columns : Int32} {c_isFound : Int32} {c_bestValue : Int64} {c_bestBelow : Int64} {c_bestShare : (Nat → Int64)} {c_share : (Nat → Int64)} {c_system : (Nat → Int64)} {c_shares : (Nat → Int32)} {c_allShares : Int32} {z : Nat} {v : (Nat → Int64)} (hX : xIs (j10_swaps) X none none (hM c_thrown c_told c_read c_many c_eights c_gains c_notes c_seen c_turns c_drawn c_state c_tape c_taped c_size c_from c_next c_token c_value c_fault c_number c_fives c_isLeft c_wentTimes c_goes c_isLeftLaid c_game c_rows c_columns c_isFound c_bestValue c_bestBelow c_bestShare c_share v c_system c_shares c_allShares)) : ∀ (w : Nat) {x1 : Int32} {x2 : Int32} {x3 : Int32} {c_matrix : (Nat → Int64)}, F10_swaps_b2 z w x1 x2 x3 c_matrix = some v → xV (j10_swaps) X 0 0 (hM c_thrown c_told c_read c_many c_eights c_gains c_notes c_seen c_turns c_drawn c_state c_tape c_taped c_size c_from c_next c_token c_value c_fault c_number c_fives c_isLeft c_wentTimes c_goes c_isLeftLaid c_game c_rows c_columns c_isFound c_bestValue c_bestBelow c_bestShare c_share c_matrix c_system c_shares c_allShares) 2 [(0, .ref 0), (1, .int x1), (2, .int x2), (3, .int x3)] [] := by
  intro w
  induction w with
  | zero => intro x1 x2 x3 c_matrix hf; cases hf
  | succ w ih =>
    intro x1 x2 x3 c_matrix hf
    unfold F10_swaps_b2 at hf
    refine xV_iload_n 3 rfl dX10_swaps_2 rfl 3 rfl ?_
    refine xV_bipush 5 rfl dX10_swaps_3 xk_b8 ?_
    refine xV_icmp_ge (tgt := 62) 8 rfl dX10_swaps_5 (by decide) (fun h5 => ?_) (fun h5 => ?_)
    · have hf := xif_t hf h5
      obtain rfl := Option.some.inj hf
      exact xV_vret hX dX10_swaps_62 (Nat.zero_le _) (Nat.zero_le _)
    · have hf := xif_f hf h5
      refine xV_aload_n 9 rfl dX10_swaps_8 rfl 0 rfl ?_
      refine xV_get (v := .ref 17) 12 rfl dX10_swaps_9 f10_70 rfl rfl ?_
      refine xV_bipush 14 rfl dX10_swaps_12 xk_b8 ?_
      refine xV_iload_n 15 rfl dX10_swaps_14 rfl 1 rfl ?_
      refine xV_imul 16 rfl dX10_swaps_15 ?_
      refine xV_iload_n 17 rfl dX10_swaps_16 rfl 3 rfl ?_
      refine xV_iadd 18 rfl dX10_swaps_17 ?_
      obtain ⟨hg18, hf⟩ := xg_s hf
      refine xV_laload 19 rfl dX10_swaps_18 rfl (xin_ok hg18) rfl ?_
      refine xV_lstore (L' := [(4, .long (c_matrix (xn (((8 : Int32) * x1) + x3)))), (0, .ref 0), (1, .int x1), (2, .int x2), (3, .int x3)]) 21 rfl dX10_swaps_19 (xlt rfl) rfl ?_
      refine xV_aload_n 22 rfl dX10_swaps_21 rfl 1 rfl ?_
      refine xV_get (v := .ref 17) 25 rfl dX10_swaps_22 f10_70 rfl rfl ?_
      refine xV_bipush 27 rfl dX10_swaps_25 xk_b8 ?_
      refine xV_iload_n 28 rfl dX10_swaps_27 rfl 2 rfl ?_
      refine xV_imul 29 rfl dX10_swaps_28 ?_
      refine xV_iload_n 30 rfl dX10_swaps_29 rfl 4 rfl ?_
      refine xV_iadd 31 rfl dX10_swaps_30 ?_
      refine xV_aload_n 32 rfl dX10_swaps_31 rfl 1 rfl ?_
      refine xV_get (v := .ref 17) 35 rfl dX10_swaps_32 f10_70 rfl rfl ?_
      refine xV_bipush 37 rfl dX10_swaps_35 xk_b8 ?_
      refine xV_iload_n 38 rfl dX10_swaps_37 rfl 3 rfl ?_
      refine xV_imul 39 rfl dX10_swaps_38 ?_
      refine xV_iload_n 40 rfl dX10_swaps_39 rfl 4 rfl ?_
      refine xV_iadd 41 rfl dX10_swaps_40 ?_
      obtain ⟨hg41, hf⟩ := xg_s hf
      refine xV_laload 42 rfl dX10_swaps_41 rfl (xin_ok hg41) rfl ?_
      obtain ⟨hg42, hf⟩ := xg_s hf
      refine xV_lastore (h' := (hM c_thrown c_told c_read c_many c_eights c_gains c_notes c_seen c_turns c_drawn c_state c_tape c_taped c_size c_from c_next c_token c_value c_fault c_number c_fives c_isLeft c_wentTimes c_goes c_isLeftLaid c_game c_rows c_columns c_isFound c_bestValue c_bestBelow c_bestShare c_share (vp_updL c_matrix (xn (((8 : Int32) * x1) + x3)) (c_matrix (xn (((8 : Int32) * x2) + x3)))) c_system c_shares c_allShares)) 43 rfl dX10_swaps_42 rfl (xin_ok hg42) rfl rfl ?_
      refine xV_aload_n 44 rfl dX10_swaps_43 rfl 1 rfl ?_
      refine xV_get (v := .ref 17) 47 rfl dX10_swaps_44 f10_70 rfl rfl ?_
      refine xV_bipush 49 rfl dX10_swaps_47 xk_b8 ?_
      refine xV_iload_n 50 rfl dX10_swaps_49 rfl 3 rfl ?_
      refine xV_imul 51 rfl dX10_swaps_50 ?_
      refine xV_iload_n 52 rfl dX10_swaps_51 rfl 4 rfl ?_
      refine xV_iadd 53 rfl dX10_swaps_52 ?_
      refine xV_lload 55 rfl dX10_swaps_53 0 rfl ?_
      obtain ⟨hg55, hf⟩ := xg_s hf
      refine xV_lastore (h' := (hM c_thrown c_told c_read c_many c_eights c_gains c_notes c_seen c_turns c_drawn c_state c_tape c_taped c_size c_from c_next c_token c_value c_fault c_number c_fives c_isLeft c_wentTimes c_goes c_isLeftLaid c_game c_rows c_columns c_isFound c_bestValue c_bestBelow c_bestShare c_share (vp_updL (vp_updL c_matrix (xn (((8 : Int32) * x1) + x3)) (c_matrix (xn (((8 : Int32) * x2) + x3)))) (xn (((8 : Int32) * x2) + x3)) (c_matrix (xn (((8 : Int32) * x1) + x3)))) c_system c_shares c_allShares)) 56 rfl dX10_swaps_55 rfl (xin_ok hg55) rfl rfl ?_
      refine xV_iinc (L' := [(3, .int (x3 + (1 : Int32))), (4, .long (c_matrix (xn (((8 : Int32) * x1) + x3)))), (0, .ref 0), (1, .int x1), (2, .int x2)]) 59 rfl dX10_swaps_56 4 rfl (xk_inc xk_i1) (xlt rfl) rfl ?_
      refine xV_goto (tgt := 2) dX10_swaps_59 (by decide) ?_
      refine xV_sub [2, 3, 4, 0] rfl ?_
      exact ih hf
def F10_swaps (z : Nat) (x1 : Int32) (x2 : Int32) (c_matrix : (Nat → Int64)) : Option ((Nat → Int64)) :=
  F10_swaps_b2 z z x1 x2 (0 : Int32) c_matrix
theorem T10_swaps {X : xX} {z : Nat} {x1 : Int32} {x2 : Int32} {c_matrix : (Nat → Int64)} {c_thrown : Int32} {c_told : (Nat → Int32)} {c_read : (Nat → Int32)} {c_many : (Nat → Int32)} {c_eights : (Nat → Int32)} {c_gains : (Nat → Int32)} {c_notes : (Nat → Int32)} {c_seen : (Nat → Int32)} {c_turns : (Nat → Int32)} {c_drawn : (Nat → Int32)} {c_state : Int32} {c_tape : (Nat → Int32)} {c_taped : Int32} {c_size : Int32} {c_from : Int32} {c_next : Int32} {c_token : Int32} {c_value : Int32} {c_fault : Int32} {c_number : Int32} {c_fives : (Nat → Int32)} {c_isLeft : (Nat → Int32)} {c_wentTimes : Int32} {c_goes : (Nat → Int32)} {c_isLeftLaid : Int32} {c_game : (Nat → Int32)} {c_rows : Int32} {c_columns : Int32} {c_isFound : Int32} {c_bestValue : Int64} {c_bestBelow : Int64} {c_bestShare : (Nat → Int64)} {c_share : (Nat → Int64)} {c_system : (Nat → Int64)} {c_shares : (Nat → Int32)} {c_allShares : Int32} {v : (Nat → Int64)} (hX : xIs (j10_swaps) X none none (hM c_thrown c_told c_read c_many c_eights c_gains c_notes c_seen c_turns c_drawn c_state c_tape c_taped c_size c_from c_next c_token c_value c_fault c_number c_fives c_isLeft c_wentTimes c_goes c_isLeftLaid c_game c_rows c_columns c_isFound c_bestValue c_bestBelow c_bestShare c_share v c_system c_shares c_allShares)) (hf : F10_swaps z x1 x2 c_matrix = some v) : xV (j10_swaps) X 0 0 (hM c_thrown c_told c_read c_many c_eights c_gains c_notes c_seen c_turns c_drawn c_state c_tape c_taped c_size c_from c_next c_token c_value c_fault c_number c_fives c_isLeft c_wentTimes c_goes c_isLeftLaid c_game c_rows c_columns c_isFound c_bestValue c_bestBelow c_bestShare c_share c_matrix c_system c_shares c_allShares) 0 [(0, .ref 0), (1, .int x1), (2, .int x2)] [] := by
  unfold F10_swaps at hf
  refine xV_iconst 1 rfl dX10_swaps_0 xk_i0 ?_
  refine xV_istore_n (L' := [(3, .int (0 : Int32)), (0, .ref 0), (1, .int x1), (2, .int x2)]) 2 rfl dX10_swaps_1 rfl (xlt rfl) rfl ?_
  refine xV_sub [1, 2, 3, 0] rfl ?_
  exact T10_swaps_b2 hX _ hf
theorem C10_swaps (l : Launch) {z : Nat} {x1 : Int32} {x2 : Int32} {c_matrix : (Nat → Int64)} {c_thrown : Int32} {c_told : (Nat → Int32)} {c_read : (Nat → Int32)} {c_many : (Nat → Int32)} {c_eights : (Nat → Int32)} {c_gains : (Nat → Int32)} {c_notes : (Nat → Int32)} {c_seen : (Nat → Int32)} {c_turns : (Nat → Int32)} {c_drawn : (Nat → Int32)} {c_state : Int32} {c_tape : (Nat → Int32)} {c_taped : Int32} {c_size : Int32} {c_from : Int32} {c_next : Int32} {c_token : Int32} {c_value : Int32} {c_fault : Int32} {c_number : Int32} {c_fives : (Nat → Int32)} {c_isLeft : (Nat → Int32)} {c_wentTimes : Int32} {c_goes : (Nat → Int32)} {c_isLeftLaid : Int32} {c_game : (Nat → Int32)} {c_rows : Int32} {c_columns : Int32} {c_isFound : Int32} {c_bestValue : Int64} {c_bestBelow : Int64} {c_bestShare : (Nat → Int64)} {c_share : (Nat → Int64)} {c_system : (Nat → Int64)} {c_shares : (Nat → Int32)} {c_allShares : Int32} {v : (Nat → Int64)} (hf : F10_swaps z x1 x2 c_matrix = some v) : xCt l yX10_swaps none j10_swaps [.ref 0, .int x1, .int x2] (hM c_thrown c_told c_read c_many c_eights c_gains c_notes c_seen c_turns c_drawn c_state c_tape c_taped c_size c_from c_next c_token c_value c_fault c_number c_fives c_isLeft c_wentTimes c_goes c_isLeftLaid c_game c_rows c_columns c_isFound c_bestValue c_bestBelow c_bestShare c_share c_matrix c_system c_shares c_allShares) none (hM c_thrown c_told c_read c_many c_eights c_gains c_notes c_seen c_turns c_drawn c_state c_tape c_taped c_size c_from c_next c_token c_value c_fault c_number c_fives c_isLeft c_wentTimes c_goes c_isLeftLaid c_game c_rows c_columns c_isFound c_bestValue c_bestBelow c_bestShare c_share v c_system c_shares c_allShares) := xCt_of (by decide) rfl (Nat.le_of_ble_eq_true rfl) (fun _ hX => T10_swaps hX hf)
theorem m10_swaps : xMd yX10_swaps RX10 none j10_swaps 2 := ⟨List.mem_of_getElem? (i := 965) (by decide +kernel), List.mem_of_getElem? (i := 5) (by decide +kernel), rfl, by decide +kernel⟩
theorem v10_swaps : xMv yX10_swaps RX10 := ⟨List.mem_of_getElem? (i := 963) (by decide +kernel), List.mem_of_getElem? (i := 964) (by decide +kernel)⟩
theorem k10_269 : Cond.methodLink RX10 269 yX10_swaps ∈ wsL_law0 := List.mem_of_getElem? (i := 962) (by decide +kernel)
theorem dX10_determinant_0 : decode cX10_determinant 0 = .ok (.lconst 1, 1) := by decide +kernel
theorem dX10_determinant_1 : decode cX10_determinant 1 = .ok (.lstore_n 2, 1) := by decide +kernel
theorem dX10_determinant_2 : decode cX10_determinant 2 = .ok (.lconst 1, 1) := by decide +kernel
theorem dX10_determinant_3 : decode cX10_determinant 3 = .ok (.lstore 4, 2) := by decide +kernel
theorem dX10_determinant_5 : decode cX10_determinant 5 = .ok (.iconst 0, 1) := by decide +kernel
theorem dX10_determinant_6 : decode cX10_determinant 6 = .ok (.istore 6, 2) := by decide +kernel
theorem dX10_determinant_8 : decode cX10_determinant 8 = .ok (.iload 6, 2) := by decide +kernel
theorem dX10_determinant_10 : decode cX10_determinant 10 = .ok (.iload_n 1, 1) := by decide +kernel
theorem dX10_determinant_11 : decode cX10_determinant 11 = .ok (.iconst 1, 1) := by decide +kernel
theorem dX10_determinant_12 : decode cX10_determinant 12 = .ok (.isub, 1) := by decide +kernel
theorem dX10_determinant_13 : decode cX10_determinant 13 = .ok (.if_icmp .ge 191, 3) := by decide +kernel
theorem dX10_determinant_16 : decode cX10_determinant 16 = .ok (.iload 6, 2) := by decide +kernel
theorem dX10_determinant_18 : decode cX10_determinant 18 = .ok (.istore 7, 2) := by decide +kernel
theorem dX10_determinant_20 : decode cX10_determinant 20 = .ok (.iload 7, 2) := by decide +kernel
theorem dX10_determinant_22 : decode cX10_determinant 22 = .ok (.iload_n 1, 1) := by decide +kernel
theorem dX10_determinant_23 : decode cX10_determinant 23 = .ok (.if_icmp .ge 27, 3) := by decide +kernel
theorem dX10_determinant_26 : decode cX10_determinant 26 = .ok (.aload_n 0, 1) := by decide +kernel
theorem dX10_determinant_27 : decode cX10_determinant 27 = .ok (.getfield 70, 3) := by decide +kernel
theorem dX10_determinant_30 : decode cX10_determinant 30 = .ok (.bipush 8, 2) := by decide +kernel
theorem dX10_determinant_32 : decode cX10_determinant 32 = .ok (.iload 7, 2) := by decide +kernel
theorem dX10_determinant_34 : decode cX10_determinant 34 = .ok (.imul, 1) := by decide +kernel
theorem dX10_determinant_35 : decode cX10_determinant 35 = .ok (.iload 6, 2) := by decide +kernel
theorem dX10_determinant_37 : decode cX10_determinant 37 = .ok (.iadd, 1) := by decide +kernel
theorem dX10_determinant_38 : decode cX10_determinant 38 = .ok (.laload, 1) := by decide +kernel
theorem dX10_determinant_39 : decode cX10_determinant 39 = .ok (.lconst 0, 1) := by decide +kernel
theorem dX10_determinant_40 : decode cX10_determinant 40 = .ok (.lcmp, 1) := by decide +kernel
theorem dX10_determinant_41 : decode cX10_determinant 41 = .ok (.ifCond .ne 9, 3) := by decide +kernel
theorem dX10_determinant_44 : decode cX10_determinant 44 = .ok (.iinc 7 1, 3) := by decide +kernel
theorem dX10_determinant_47 : decode cX10_determinant 47 = .ok (.goto (-27), 3) := by decide +kernel
theorem dX10_determinant_50 : decode cX10_determinant 50 = .ok (.iload 7, 2) := by decide +kernel
theorem dX10_determinant_52 : decode cX10_determinant 52 = .ok (.iload_n 1, 1) := by decide +kernel
theorem dX10_determinant_53 : decode cX10_determinant 53 = .ok (.if_icmp .ne 5, 3) := by decide +kernel
theorem dX10_determinant_56 : decode cX10_determinant 56 = .ok (.lconst 0, 1) := by decide +kernel
theorem dX10_determinant_57 : decode cX10_determinant 57 = .ok (.lreturn, 1) := by decide +kernel
theorem dX10_determinant_58 : decode cX10_determinant 58 = .ok (.iload 7, 2) := by decide +kernel
theorem dX10_determinant_60 : decode cX10_determinant 60 = .ok (.iload 6, 2) := by decide +kernel
theorem dX10_determinant_62 : decode cX10_determinant 62 = .ok (.if_icmp .eq 14, 3) := by decide +kernel
theorem dX10_determinant_65 : decode cX10_determinant 65 = .ok (.aload_n 0, 1) := by decide +kernel
theorem dX10_determinant_66 : decode cX10_determinant 66 = .ok (.iload 6, 2) := by decide +kernel
theorem dX10_determinant_68 : decode cX10_determinant 68 = .ok (.iload 7, 2) := by decide +kernel
theorem dX10_determinant_70 : decode cX10_determinant 70 = .ok (.invokevirtual 269, 3) := by decide +kernel
theorem dX10_determinant_73 : decode cX10_determinant 73 = .ok (.lload_n 2, 1) := by decide +kernel
theorem dX10_determinant_74 : decode cX10_determinant 74 = .ok (.lneg, 1) := by decide +kernel
theorem dX10_determinant_75 : decode cX10_determinant 75 = .ok (.lstore_n 2, 1) := by decide +kernel
theorem dX10_determinant_76 : decode cX10_determinant 76 = .ok (.iload 6, 2) := by decide +kernel
theorem dX10_determinant_78 : decode cX10_determinant 78 = .ok (.iconst 1, 1) := by decide +kernel
theorem dX10_determinant_79 : decode cX10_determinant 79 = .ok (.iadd, 1) := by decide +kernel
theorem dX10_determinant_80 : decode cX10_determinant 80 = .ok (.istore 8, 2) := by decide +kernel
theorem dX10_determinant_82 : decode cX10_determinant 82 = .ok (.iload 8, 2) := by decide +kernel
theorem dX10_determinant_84 : decode cX10_determinant 84 = .ok (.iload_n 1, 1) := by decide +kernel
theorem dX10_determinant_85 : decode cX10_determinant 85 = .ok (.if_icmp .ge 98, 3) := by decide +kernel
theorem dX10_determinant_88 : decode cX10_determinant 88 = .ok (.iload 6, 2) := by decide +kernel
theorem dX10_determinant_90 : decode cX10_determinant 90 = .ok (.iconst 1, 1) := by decide +kernel
theorem dX10_determinant_91 : decode cX10_determinant 91 = .ok (.iadd, 1) := by decide +kernel
theorem dX10_determinant_92 : decode cX10_determinant 92 = .ok (.istore 9, 2) := by decide +kernel
theorem dX10_determinant_94 : decode cX10_determinant 94 = .ok (.iload 9, 2) := by decide +kernel
theorem dX10_determinant_96 : decode cX10_determinant 96 = .ok (.iload_n 1, 1) := by decide +kernel
theorem dX10_determinant_97 : decode cX10_determinant 97 = .ok (.if_icmp .ge 80, 3) := by decide +kernel
theorem dX10_determinant_100 : decode cX10_determinant 100 = .ok (.aload_n 0, 1) := by decide +kernel
theorem dX10_determinant_101 : decode cX10_determinant 101 = .ok (.getfield 70, 3) := by decide +kernel
theorem dX10_determinant_104 : decode cX10_determinant 104 = .ok (.bipush 8, 2) := by decide +kernel
theorem dX10_determinant_106 : decode cX10_determinant 106 = .ok (.iload 8, 2) := by decide +kernel
theorem dX10_determinant_108 : decode cX10_determinant 108 = .ok (.imul, 1) := by decide +kernel
theorem dX10_determinant_109 : decode cX10_determinant 109 = .ok (.iload 9, 2) := by decide +kernel
theorem dX10_determinant_111 : decode cX10_determinant 111 = .ok (.iadd, 1) := by decide +kernel
theorem dX10_determinant_112 : decode cX10_determinant 112 = .ok (.aload_n 0, 1) := by decide +kernel
theorem dX10_determinant_113 : decode cX10_determinant 113 = .ok (.getfield 70, 3) := by decide +kernel
theorem dX10_determinant_116 : decode cX10_determinant 116 = .ok (.bipush 8, 2) := by decide +kernel
theorem dX10_determinant_118 : decode cX10_determinant 118 = .ok (.iload 8, 2) := by decide +kernel
theorem dX10_determinant_120 : decode cX10_determinant 120 = .ok (.imul, 1) := by decide +kernel
theorem dX10_determinant_121 : decode cX10_determinant 121 = .ok (.iload 9, 2) := by decide +kernel
theorem dX10_determinant_123 : decode cX10_determinant 123 = .ok (.iadd, 1) := by decide +kernel
theorem dX10_determinant_124 : decode cX10_determinant 124 = .ok (.laload, 1) := by decide +kernel
theorem dX10_determinant_125 : decode cX10_determinant 125 = .ok (.aload_n 0, 1) := by decide +kernel
theorem dX10_determinant_126 : decode cX10_determinant 126 = .ok (.getfield 70, 3) := by decide +kernel
theorem dX10_determinant_129 : decode cX10_determinant 129 = .ok (.bipush 8, 2) := by decide +kernel
theorem dX10_determinant_131 : decode cX10_determinant 131 = .ok (.iload 6, 2) := by decide +kernel
theorem dX10_determinant_133 : decode cX10_determinant 133 = .ok (.imul, 1) := by decide +kernel
theorem dX10_determinant_134 : decode cX10_determinant 134 = .ok (.iload 6, 2) := by decide +kernel
theorem dX10_determinant_136 : decode cX10_determinant 136 = .ok (.iadd, 1) := by decide +kernel
theorem dX10_determinant_137 : decode cX10_determinant 137 = .ok (.laload, 1) := by decide +kernel
theorem dX10_determinant_138 : decode cX10_determinant 138 = .ok (.lmul, 1) := by decide +kernel
theorem dX10_determinant_139 : decode cX10_determinant 139 = .ok (.aload_n 0, 1) := by decide +kernel
theorem dX10_determinant_140 : decode cX10_determinant 140 = .ok (.getfield 70, 3) := by decide +kernel
theorem dX10_determinant_143 : decode cX10_determinant 143 = .ok (.bipush 8, 2) := by decide +kernel
theorem dX10_determinant_145 : decode cX10_determinant 145 = .ok (.iload 8, 2) := by decide +kernel
theorem dX10_determinant_147 : decode cX10_determinant 147 = .ok (.imul, 1) := by decide +kernel
theorem dX10_determinant_148 : decode cX10_determinant 148 = .ok (.iload 6, 2) := by decide +kernel
theorem dX10_determinant_150 : decode cX10_determinant 150 = .ok (.iadd, 1) := by decide +kernel
theorem dX10_determinant_151 : decode cX10_determinant 151 = .ok (.laload, 1) := by decide +kernel
theorem dX10_determinant_152 : decode cX10_determinant 152 = .ok (.aload_n 0, 1) := by decide +kernel
theorem dX10_determinant_153 : decode cX10_determinant 153 = .ok (.getfield 70, 3) := by decide +kernel
theorem dX10_determinant_156 : decode cX10_determinant 156 = .ok (.bipush 8, 2) := by decide +kernel
theorem dX10_determinant_158 : decode cX10_determinant 158 = .ok (.iload 6, 2) := by decide +kernel
theorem dX10_determinant_160 : decode cX10_determinant 160 = .ok (.imul, 1) := by decide +kernel
theorem dX10_determinant_161 : decode cX10_determinant 161 = .ok (.iload 9, 2) := by decide +kernel
theorem dX10_determinant_163 : decode cX10_determinant 163 = .ok (.iadd, 1) := by decide +kernel
theorem dX10_determinant_164 : decode cX10_determinant 164 = .ok (.laload, 1) := by decide +kernel
theorem dX10_determinant_165 : decode cX10_determinant 165 = .ok (.lmul, 1) := by decide +kernel
theorem dX10_determinant_166 : decode cX10_determinant 166 = .ok (.lsub, 1) := by decide +kernel
theorem dX10_determinant_167 : decode cX10_determinant 167 = .ok (.lload 4, 2) := by decide +kernel
theorem dX10_determinant_169 : decode cX10_determinant 169 = .ok (.ldiv, 1) := by decide +kernel
theorem dX10_determinant_170 : decode cX10_determinant 170 = .ok (.lastore, 1) := by decide +kernel
theorem dX10_determinant_171 : decode cX10_determinant 171 = .ok (.iinc 9 1, 3) := by decide +kernel
theorem dX10_determinant_174 : decode cX10_determinant 174 = .ok (.goto (-80), 3) := by decide +kernel
theorem dX10_determinant_177 : decode cX10_determinant 177 = .ok (.iinc 8 1, 3) := by decide +kernel
theorem dX10_determinant_180 : decode cX10_determinant 180 = .ok (.goto (-98), 3) := by decide +kernel
theorem dX10_determinant_183 : decode cX10_determinant 183 = .ok (.aload_n 0, 1) := by decide +kernel
theorem dX10_determinant_184 : decode cX10_determinant 184 = .ok (.getfield 70, 3) := by decide +kernel
theorem dX10_determinant_187 : decode cX10_determinant 187 = .ok (.bipush 8, 2) := by decide +kernel
theorem dX10_determinant_189 : decode cX10_determinant 189 = .ok (.iload 6, 2) := by decide +kernel
theorem dX10_determinant_191 : decode cX10_determinant 191 = .ok (.imul, 1) := by decide +kernel
theorem dX10_determinant_192 : decode cX10_determinant 192 = .ok (.iload 6, 2) := by decide +kernel
theorem dX10_determinant_194 : decode cX10_determinant 194 = .ok (.iadd, 1) := by decide +kernel
theorem dX10_determinant_195 : decode cX10_determinant 195 = .ok (.laload, 1) := by decide +kernel
theorem dX10_determinant_196 : decode cX10_determinant 196 = .ok (.lstore 4, 2) := by decide +kernel
theorem dX10_determinant_198 : decode cX10_determinant 198 = .ok (.iinc 6 1, 3) := by decide +kernel
theorem dX10_determinant_201 : decode cX10_determinant 201 = .ok (.goto (-193), 3) := by decide +kernel
theorem dX10_determinant_204 : decode cX10_determinant 204 = .ok (.lload_n 2, 1) := by decide +kernel
theorem dX10_determinant_205 : decode cX10_determinant 205 = .ok (.aload_n 0, 1) := by decide +kernel
theorem dX10_determinant_206 : decode cX10_determinant 206 = .ok (.getfield 70, 3) := by decide +kernel
theorem dX10_determinant_209 : decode cX10_determinant 209 = .ok (.bipush 8, 2) := by decide +kernel
theorem dX10_determinant_211 : decode cX10_determinant 211 = .ok (.iload_n 1, 1) := by decide +kernel
theorem dX10_determinant_212 : decode cX10_determinant 212 = .ok (.iconst 1, 1) := by decide +kernel
theorem dX10_determinant_213 : decode cX10_determinant 213 = .ok (.isub, 1) := by decide +kernel
theorem dX10_determinant_214 : decode cX10_determinant 214 = .ok (.imul, 1) := by decide +kernel
theorem dX10_determinant_215 : decode cX10_determinant 215 = .ok (.iload_n 1, 1) := by decide +kernel
theorem dX10_determinant_216 : decode cX10_determinant 216 = .ok (.iadd, 1) := by decide +kernel
theorem dX10_determinant_217 : decode cX10_determinant 217 = .ok (.iconst 1, 1) := by decide +kernel
theorem dX10_determinant_218 : decode cX10_determinant 218 = .ok (.isub, 1) := by decide +kernel
theorem dX10_determinant_219 : decode cX10_determinant 219 = .ok (.laload, 1) := by decide +kernel
theorem dX10_determinant_220 : decode cX10_determinant 220 = .ok (.lmul, 1) := by decide +kernel
theorem dX10_determinant_221 : decode cX10_determinant 221 = .ok (.lreturn, 1) := by decide +kernel
abbrev j10_determinant : xJ := (cX10_determinant, 10, RX10, 2, 0, 0)
def F10_determinant_b204 (z : Nat) (x1 : Int32) (x2 : Int64) (c_matrix : (Nat → Int64)) : Option (Int64 × (Nat → Int64)) :=
  xg (xin ((((8 : Int32) * (x1 - (1 : Int32))) + x1) - (1 : Int32)) 64) (some ((x2 * (c_matrix (xn ((((8 : Int32) * (x1 - (1 : Int32))) + x1) - (1 : Int32))))), c_matrix))
theorem T10_determinant_b204 {X : xX} {c_thrown : Int32} {c_told : (Nat → Int32)} {c_read : (Nat → Int32)} {c_many : (Nat → Int32)} {c_eights : (Nat → Int32)} {c_gains : (Nat → Int32)} {c_notes : (Nat → Int32)} {c_seen : (Nat → Int32)} {c_turns : (Nat → Int32)} {c_drawn : (Nat → Int32)} {c_state : Int32} {c_tape : (Nat → Int32)} {c_taped : Int32} {c_size : Int32} {c_from : Int32} {c_next : Int32} {c_token : Int32} {c_value : Int32} {c_fault : Int32} {c_number : Int32} {c_fives : (Nat → Int32)} {c_isLeft : (Nat → Int32)} {c_wentTimes : Int32} {c_goes : (Nat → Int32)} {c_isLeftLaid : Int32} {c_game : (Nat → Int32)} {c_rows : Int32} {c_columns : Int32} {c_isFound : Int32} {c_bestValue : Int64} {c_bestBelow : Int64} {c_bestShare : (Nat → Int64)} {c_share : (Nat → Int64)} {c_system : (Nat → Int64)} {c_shares : (Nat → Int32)} {c_allShares : Int32} {x1 : Int32} {x2 : Int64} {c_matrix : (Nat → Int64)} {z : Nat} {v : Int64 × (Nat → Int64)} (hX : xIs (j10_determinant) X ((some .long)) (some (.long v.1)) (hM c_thrown c_told c_read c_many c_eights c_gains c_notes c_seen c_turns c_drawn c_state c_tape c_taped c_size c_from c_next c_token c_value c_fault c_number c_fives c_isLeft c_wentTimes c_goes c_isLeftLaid c_game c_rows c_columns c_isFound c_bestValue c_bestBelow c_bestShare c_share v.2 c_system c_shares c_allShares)) (hf : F10_determinant_b204 z x1 x2 c_matrix = some v) : xV (j10_determinant) X 0 0 (hM c_thrown c_told c_read c_many c_eights c_gains c_notes c_seen c_turns c_drawn c_state c_tape c_taped c_size c_from c_next c_token c_value c_fault c_number c_fives c_isLeft c_wentTimes c_goes c_isLeftLaid c_game c_rows c_columns c_isFound c_bestValue c_bestBelow c_bestShare c_share c_matrix c_system c_shares c_allShares) 204 [(0, .ref 0), (1, .int x1), (2, .long x2)] [] := by
  unfold F10_determinant_b204 at hf
  refine xV_lload_n 205 rfl dX10_determinant_204 rfl 2 rfl ?_
  refine xV_aload_n 206 rfl dX10_determinant_205 rfl 0 rfl ?_
  refine xV_get (v := .ref 17) 209 rfl dX10_determinant_206 f10_70 rfl rfl ?_
  refine xV_bipush 211 rfl dX10_determinant_209 xk_b8 ?_
  refine xV_iload_n 212 rfl dX10_determinant_211 rfl 1 rfl ?_
  refine xV_iconst 213 rfl dX10_determinant_212 xk_i1 ?_
  refine xV_isub 214 rfl dX10_determinant_213 ?_
  refine xV_imul 215 rfl dX10_determinant_214 ?_
  refine xV_iload_n 216 rfl dX10_determinant_215 rfl 1 rfl ?_
  refine xV_iadd 217 rfl dX10_determinant_216 ?_
  refine xV_iconst 218 rfl dX10_determinant_217 xk_i1 ?_
  refine xV_isub 219 rfl dX10_determinant_218 ?_
  obtain ⟨hg219, hf⟩ := xg_s hf
  refine xV_laload 220 rfl dX10_determinant_219 rfl (xin_ok hg219) rfl ?_
  refine xV_lmul 221 rfl dX10_determinant_220 ?_
  obtain rfl := Option.some.inj hf
  exact xV_lret hX dX10_determinant_221 (Nat.zero_le _) (Nat.zero_le _)
def F10_determinant_b183 (z : Nat) (x1 : Int32) (x2 : Int64) (x6 : Int32) (c_matrix : (Nat → Int64)) (k8 : Int32 → Int64 → Int64 → Int32 → (Nat → Int64) → Option (Int64 × (Nat → Int64))) : Option (Int64 × (Nat → Int64)) :=
  xg (xin (((8 : Int32) * x6) + x6) 64) (k8 x1 x2 (c_matrix (xn (((8 : Int32) * x6) + x6))) (x6 + (1 : Int32)) c_matrix)
theorem T10_determinant_b183 {X : xX} {c_thrown : Int32} {c_told : (Nat → Int32)} {c_read : (Nat → Int32)} {c_many : (Nat → Int32)} {c_eights : (Nat → Int32)} {c_gains : (Nat → Int32)} {c_notes : (Nat → Int32)} {c_seen : (Nat → Int32)} {c_turns : (Nat → Int32)} {c_drawn : (Nat → Int32)} {c_state : Int32} {c_tape : (Nat → Int32)} {c_taped : Int32} {c_size : Int32} {c_from : Int32} {c_next : Int32} {c_token : Int32} {c_value : Int32} {c_fault : Int32} {c_number : Int32} {c_fives : (Nat → Int32)} {c_isLeft : (Nat → Int32)} {c_wentTimes : Int32} {c_goes : (Nat → Int32)} {c_isLeftLaid : Int32} {c_game : (Nat → Int32)} {c_rows : Int32} {c_columns : Int32} {c_isFound : Int32} {c_bestValue : Int64} {c_bestBelow : Int64} {c_bestShare : (Nat → Int64)} {c_share : (Nat → Int64)} {c_system : (Nat → Int64)} {c_shares : (Nat → Int32)} {c_allShares : Int32} {x1 : Int32} {x2 : Int64} {x6 : Int32} {c_matrix : (Nat → Int64)} {z : Nat} {v : Int64 × (Nat → Int64)} {k8 : Int32 → Int64 → Int64 → Int32 → (Nat → Int64) → Option (Int64 × (Nat → Int64))} (hX : xIs (j10_determinant) X ((some .long)) (some (.long v.1)) (hM c_thrown c_told c_read c_many c_eights c_gains c_notes c_seen c_turns c_drawn c_state c_tape c_taped c_size c_from c_next c_token c_value c_fault c_number c_fives c_isLeft c_wentTimes c_goes c_isLeftLaid c_game c_rows c_columns c_isFound c_bestValue c_bestBelow c_bestShare c_share v.2 c_system c_shares c_allShares)) (hk8 : ∀ {x1 : Int32} {x2 : Int64} {x4 : Int64} {x6 : Int32} {c_matrix : (Nat → Int64)}, k8 x1 x2 x4 x6 c_matrix = some v → xV (j10_determinant) X 0 0 (hM c_thrown c_told c_read c_many c_eights c_gains c_notes c_seen c_turns c_drawn c_state c_tape c_taped c_size c_from c_next c_token c_value c_fault c_number c_fives c_isLeft c_wentTimes c_goes c_isLeftLaid c_game c_rows c_columns c_isFound c_bestValue c_bestBelow c_bestShare c_share c_matrix c_system c_shares c_allShares) 8 [(0, .ref 0), (1, .int x1), (2, .long x2), (4, .long x4), (6, .int x6)] []) (hf : F10_determinant_b183 z x1 x2 x6 c_matrix k8 = some v) : xV (j10_determinant) X 0 0 (hM c_thrown c_told c_read c_many c_eights c_gains c_notes c_seen c_turns c_drawn c_state c_tape c_taped c_size c_from c_next c_token c_value c_fault c_number c_fives c_isLeft c_wentTimes c_goes c_isLeftLaid c_game c_rows c_columns c_isFound c_bestValue c_bestBelow c_bestShare c_share c_matrix c_system c_shares c_allShares) 183 [(0, .ref 0), (1, .int x1), (2, .long x2), (6, .int x6)] [] := by
  unfold F10_determinant_b183 at hf
  refine xV_aload_n 184 rfl dX10_determinant_183 rfl 0 rfl ?_
  refine xV_get (v := .ref 17) 187 rfl dX10_determinant_184 f10_70 rfl rfl ?_
  refine xV_bipush 189 rfl dX10_determinant_187 xk_b8 ?_
  refine xV_iload 191 rfl dX10_determinant_189 3 rfl ?_
  refine xV_imul 192 rfl dX10_determinant_191 ?_
  refine xV_iload 194 rfl dX10_determinant_192 3 rfl ?_
  refine xV_iadd 195 rfl dX10_determinant_194 ?_
  obtain ⟨hg195, hf⟩ := xg_s hf
  refine xV_laload 196 rfl dX10_determinant_195 rfl (xin_ok hg195) rfl ?_
  refine xV_lstore (L' := [(4, .long (c_matrix (xn (((8 : Int32) * x6) + x6)))), (0, .ref 0), (1, .int x1), (2, .long x2), (6, .int x6)]) 198 rfl dX10_determinant_196 (xlt rfl) rfl ?_
  refine xV_iinc (L' := [(6, .int (x6 + (1 : Int32))), (4, .long (c_matrix (xn (((8 : Int32) * x6) + x6)))), (0, .ref 0), (1, .int x1), (2, .long x2)]) 201 rfl dX10_determinant_198 4 rfl (xk_inc xk_i1) (xlt rfl) rfl ?_
  refine xV_goto (tgt := 8) dX10_determinant_201 (by decide) ?_
  refine xV_sub [2, 3, 4, 1, 0] rfl ?_
  exact hk8 hf
def F10_determinant_b177 (z : Nat) (x1 : Int32) (x2 : Int64) (x4 : Int64) (x6 : Int32) (x8 : Int32) (c_matrix : (Nat → Int64)) (k8 : Int32 → Int64 → Int64 → Int32 → (Nat → Int64) → Option (Int64 × (Nat → Int64))) (k82 : Int32 → Int64 → Int64 → Int32 → Int32 → (Nat → Int64) → Option (Int64 × (Nat → Int64))) : Option (Int64 × (Nat → Int64)) :=
  k82 x1 x2 x4 x6 (x8 + (1 : Int32)) c_matrix
theorem T10_determinant_b177 {X : xX} {c_thrown : Int32} {c_told : (Nat → Int32)} {c_read : (Nat → Int32)} {c_many : (Nat → Int32)} {c_eights : (Nat → Int32)} {c_gains : (Nat → Int32)} {c_notes : (Nat → Int32)} {c_seen : (Nat → Int32)} {c_turns : (Nat → Int32)} {c_drawn : (Nat → Int32)} {c_state : Int32} {c_tape : (Nat → Int32)} {c_taped : Int32} {c_size : Int32} {c_from : Int32} {c_next : Int32} {c_token : Int32} {c_value : Int32} {c_fault : Int32} {c_number : Int32} {c_fives : (Nat → Int32)} {c_isLeft : (Nat → Int32)} {c_wentTimes : Int32} {c_goes : (Nat → Int32)} {c_isLeftLaid : Int32} {c_game : (Nat → Int32)} {c_rows : Int32} {c_columns : Int32} {c_isFound : Int32} {c_bestValue : Int64} {c_bestBelow : Int64} {c_bestShare : (Nat → Int64)} {c_share : (Nat → Int64)} {c_system : (Nat → Int64)} {c_shares : (Nat → Int32)} {c_allShares : Int32} {x1 : Int32} {x2 : Int64} {x4 : Int64} {x6 : Int32} {x8 : Int32} {c_matrix : (Nat → Int64)} {z : Nat} {v : Int64 × (Nat → Int64)} {k8 : Int32 → Int64 → Int64 → Int32 → (Nat → Int64) → Option (Int64 × (Nat → Int64))} {k82 : Int32 → Int64 → Int64 → Int32 → Int32 → (Nat → Int64) → Option (Int64 × (Nat → Int64))} (hX : xIs (j10_determinant) X ((some .long)) (some (.long v.1)) (hM c_thrown c_told c_read c_many c_eights c_gains c_notes c_seen c_turns c_drawn c_state c_tape c_taped c_size c_from c_next c_token c_value c_fault c_number c_fives c_isLeft c_wentTimes c_goes c_isLeftLaid c_game c_rows c_columns c_isFound c_bestValue c_bestBelow c_bestShare c_share v.2 c_system c_shares c_allShares)) (hk8 : ∀ {x1 : Int32} {x2 : Int64} {x4 : Int64} {x6 : Int32} {c_matrix : (Nat → Int64)}, k8 x1 x2 x4 x6 c_matrix = some v → xV (j10_determinant) X 0 0 (hM c_thrown c_told c_read c_many c_eights c_gains c_notes c_seen c_turns c_drawn c_state c_tape c_taped c_size c_from c_next c_token c_value c_fault c_number c_fives c_isLeft c_wentTimes c_goes c_isLeftLaid c_game c_rows c_columns c_isFound c_bestValue c_bestBelow c_bestShare c_share c_matrix c_system c_shares c_allShares) 8 [(0, .ref 0), (1, .int x1), (2, .long x2), (4, .long x4), (6, .int x6)] []) (hk82 : ∀ {x1 : Int32} {x2 : Int64} {x4 : Int64} {x6 : Int32} {x8 : Int32} {c_matrix : (Nat → Int64)}, k82 x1 x2 x4 x6 x8 c_matrix = some v → xV (j10_determinant) X 0 0 (hM c_thrown c_told c_read c_many c_eights c_gains c_notes c_seen c_turns c_drawn c_state c_tape c_taped c_size c_from c_next c_token c_value c_fault c_number c_fives c_isLeft c_wentTimes c_goes c_isLeftLaid c_game c_rows c_columns c_isFound c_bestValue c_bestBelow c_bestShare c_share c_matrix c_system c_shares c_allShares) 82 [(0, .ref 0), (1, .int x1), (2, .long x2), (4, .long x4), (6, .int x6), (8, .int x8)] []) (hf : F10_determinant_b177 z x1 x2 x4 x6 x8 c_matrix k8 k82 = some v) : xV (j10_determinant) X 0 0 (hM c_thrown c_told c_read c_many c_eights c_gains c_notes c_seen c_turns c_drawn c_state c_tape c_taped c_size c_from c_next c_token c_value c_fault c_number c_fives c_isLeft c_wentTimes c_goes c_isLeftLaid c_game c_rows c_columns c_isFound c_bestValue c_bestBelow c_bestShare c_share c_matrix c_system c_shares c_allShares) 177 [(0, .ref 0), (1, .int x1), (2, .long x2), (4, .long x4), (6, .int x6), (8, .int x8)] [] := by
  unfold F10_determinant_b177 at hf
  refine xV_iinc (L' := [(8, .int (x8 + (1 : Int32))), (0, .ref 0), (1, .int x1), (2, .long x2), (4, .long x4), (6, .int x6)]) 180 rfl dX10_determinant_177 5 rfl (xk_inc xk_i1) (xlt rfl) rfl ?_
  refine xV_goto (tgt := 82) dX10_determinant_180 (by decide) ?_
  refine xV_sub [1, 2, 3, 4, 5, 0] rfl ?_
  exact hk82 hf
def F10_determinant_b94 (z : Nat) (w : Nat) (x1 : Int32) (x2 : Int64) (x4 : Int64) (x6 : Int32) (x8 : Int32) (x9 : Int32) (c_matrix : (Nat → Int64)) (k8 : Int32 → Int64 → Int64 → Int32 → (Nat → Int64) → Option (Int64 × (Nat → Int64))) (k82 : Int32 → Int64 → Int64 → Int32 → Int32 → (Nat → Int64) → Option (Int64 × (Nat → Int64))) : Option (Int64 × (Nat → Int64)) := match w with
  | 0 => none
  | w + 1 => if x1 ≤ x9 then (F10_determinant_b177 z x1 x2 x4 x6 x8 c_matrix k8 k82) else (xg (xin (((8 : Int32) * x8) + x9) 64) (xg (xin (((8 : Int32) * x6) + x6) 64) (xg (xin (((8 : Int32) * x8) + x6) 64) (xg (xin (((8 : Int32) * x6) + x9) 64) (xg (xnzl x4) (xg (xin (((8 : Int32) * x8) + x9) 64) (F10_determinant_b94 z w x1 x2 x4 x6 x8 (x9 + (1 : Int32)) (vp_updL c_matrix (xn (((8 : Int32) * x8) + x9)) ((((c_matrix (xn (((8 : Int32) * x8) + x9))) * (c_matrix (xn (((8 : Int32) * x6) + x6)))) - ((c_matrix (xn (((8 : Int32) * x8) + x6))) * (c_matrix (xn (((8 : Int32) * x6) + x9))))) / x4)) k8 k82)))))))
theorem T10_determinant_b94 {X : xX} {c_thrown : Int32} {c_told : (Nat → Int32)} {c_read : (Nat → Int32)} {c_many : (Nat → Int32)} {c_eights : (Nat → Int32)} {c_gains : (Nat → Int32)} {c_notes : (Nat → Int32)} {c_seen : (Nat → Int32)} {c_turns : (Nat → Int32)} {c_drawn : (Nat → Int32)} {c_state : Int32} {c_tape : (Nat → Int32)} {c_taped : Int32} {c_size : Int32} {c_from : Int32} {c_next : Int32} {c_token : Int32} {c_value : Int32} {c_fault : Int32} {c_number : Int32} {c_fives : (Nat → Int32)} {c_isLeft : (Nat → Int32)} {c_wentTimes : Int32} {c_goes : (Nat → Int32)} {c_isLeftLaid : Int32} {c_game : (Nat → Int32)} {c_rows : Int32} {c_columns : Int32} {c_isFound : Int32} {c_bestValue : Int64} {c_bestBelow : Int64} {c_bestShare : (Nat → Int64)} {c_share : (Nat → Int64)} {c_system : (Nat → Int64)} {c_shares : (Nat → Int32)} {c_allShares : Int32} {z : Nat} {v : Int64 × (Nat → Int64)} {k8 : Int32 → Int64 → Int64 → Int32 → (Nat → Int64) → Option (Int64 × (Nat → Int64))} {k82 : Int32 → Int64 → Int64 → Int32 → Int32 → (Nat → Int64) → Option (Int64 × (Nat → Int64))} (hX : xIs (j10_determinant) X ((some .long)) (some (.long v.1)) (hM c_thrown c_told c_read c_many c_eights c_gains c_notes c_seen c_turns c_drawn c_state c_tape c_taped c_size c_from c_next c_token c_value c_fault c_number c_fives c_isLeft c_wentTimes c_goes c_isLeftLaid c_game c_rows c_columns c_isFound c_bestValue c_bestBelow c_bestShare c_share v.2 c_system c_shares c_allShares)) (hk8 : ∀ {x1 : Int32} {x2 : Int64} {x4 : Int64} {x6 : Int32} {c_matrix : (Nat → Int64)}, k8 x1 x2 x4 x6 c_matrix = some v → xV (j10_determinant) X 0 0 (hM c_thrown c_told c_read c_many c_eights c_gains c_notes c_seen c_turns c_drawn c_state c_tape c_taped c_size c_from c_next c_token c_value c_fault c_number c_fives c_isLeft c_wentTimes c_goes c_isLeftLaid c_game c_rows c_columns c_isFound c_bestValue c_bestBelow c_bestShare c_share c_matrix c_system c_shares c_allShares) 8 [(0, .ref 0), (1, .int x1), (2, .long x2), (4, .long x4), (6, .int x6)] []) (hk82 : ∀ {x1 : Int32} {x2 : Int64} {x4 : Int64} {x6 : Int32} {x8 : Int32} {c_matrix : (Nat → Int64)}, k82 x1 x2 x4 x6 x8 c_matrix = some v → xV (j10_determinant) X 0 0 (hM c_thrown c_told c_read c_many c_eights c_gains c_notes c_seen c_turns c_drawn c_state c_tape c_taped c_size c_from c_next c_token c_value c_fault c_number c_fives c_isLeft c_wentTimes c_goes c_isLeftLaid c_game c_rows c_columns c_isFound c_bestValue c_bestBelow c_bestShare c_share c_matrix c_system c_shares c_allShares) 82 [(0, .ref 0), (1, .int x1), (2, .long x2), (4, .long x4), (6, .int x6), (8, .int x8)] []) : ∀ (w : Nat) {x1 : Int32} {x2 : Int64} {x4 : Int64} {x6 : Int32} {x8 : Int32} {x9 : Int32} {c_matrix : (Nat → Int64)}, F10_determinant_b94 z w x1 x2 x4 x6 x8 x9 c_matrix k8 k82 = some v → xV (j10_determinant) X 0 0 (hM c_thrown c_told c_read c_many c_eights c_gains c_notes c_seen c_turns c_drawn c_state c_tape c_taped c_size c_from c_next c_token c_value c_fault c_number c_fives c_isLeft c_wentTimes c_goes c_isLeftLaid c_game c_rows c_columns c_isFound c_bestValue c_bestBelow c_bestShare c_share c_matrix c_system c_shares c_allShares) 94 [(0, .ref 0), (1, .int x1), (2, .long x2), (4, .long x4), (6, .int x6), (8, .int x8), (9, .int x9)] [] := by
  intro w
  induction w with
  | zero => intro x1 x2 x4 x6 x8 x9 c_matrix hf; cases hf
  | succ w ih =>
    intro x1 x2 x4 x6 x8 x9 c_matrix hf
    unfold F10_determinant_b94 at hf
    refine xV_iload 96 rfl dX10_determinant_94 6 rfl ?_
    refine xV_iload_n 97 rfl dX10_determinant_96 rfl 1 rfl ?_
    refine xV_icmp_ge (tgt := 177) 100 rfl dX10_determinant_97 (by decide) (fun h97 => ?_) (fun h97 => ?_)
    · have hf := xif_t hf h97
      refine xV_sub [0, 1, 2, 3, 4, 5] rfl ?_
      exact T10_determinant_b177 hX hk8 hk82 hf
    · have hf := xif_f hf h97
      refine xV_aload_n 101 rfl dX10_determinant_100 rfl 0 rfl ?_
      refine xV_get (v := .ref 17) 104 rfl dX10_determinant_101 f10_70 rfl rfl ?_
      refine xV_bipush 106 rfl dX10_determinant_104 xk_b8 ?_
      refine xV_iload 108 rfl dX10_determinant_106 5 rfl ?_
      refine xV_imul 109 rfl dX10_determinant_108 ?_
      refine xV_iload 111 rfl dX10_determinant_109 6 rfl ?_
      refine xV_iadd 112 rfl dX10_determinant_111 ?_
      refine xV_aload_n 113 rfl dX10_determinant_112 rfl 0 rfl ?_
      refine xV_get (v := .ref 17) 116 rfl dX10_determinant_113 f10_70 rfl rfl ?_
      refine xV_bipush 118 rfl dX10_determinant_116 xk_b8 ?_
      refine xV_iload 120 rfl dX10_determinant_118 5 rfl ?_
      refine xV_imul 121 rfl dX10_determinant_120 ?_
      refine xV_iload 123 rfl dX10_determinant_121 6 rfl ?_
      refine xV_iadd 124 rfl dX10_determinant_123 ?_
      obtain ⟨hg124, hf⟩ := xg_s hf
      refine xV_laload 125 rfl dX10_determinant_124 rfl (xin_ok hg124) rfl ?_
      refine xV_aload_n 126 rfl dX10_determinant_125 rfl 0 rfl ?_
      refine xV_get (v := .ref 17) 129 rfl dX10_determinant_126 f10_70 rfl rfl ?_
      refine xV_bipush 131 rfl dX10_determinant_129 xk_b8 ?_
      refine xV_iload 133 rfl dX10_determinant_131 4 rfl ?_
      refine xV_imul 134 rfl dX10_determinant_133 ?_
      refine xV_iload 136 rfl dX10_determinant_134 4 rfl ?_
      refine xV_iadd 137 rfl dX10_determinant_136 ?_
      obtain ⟨hg137, hf⟩ := xg_s hf
      refine xV_laload 138 rfl dX10_determinant_137 rfl (xin_ok hg137) rfl ?_
      refine xV_lmul 139 rfl dX10_determinant_138 ?_
      refine xV_aload_n 140 rfl dX10_determinant_139 rfl 0 rfl ?_
      refine xV_get (v := .ref 17) 143 rfl dX10_determinant_140 f10_70 rfl rfl ?_
      refine xV_bipush 145 rfl dX10_determinant_143 xk_b8 ?_
      refine xV_iload 147 rfl dX10_determinant_145 5 rfl ?_
      refine xV_imul 148 rfl dX10_determinant_147 ?_
      refine xV_iload 150 rfl dX10_determinant_148 4 rfl ?_
      refine xV_iadd 151 rfl dX10_determinant_150 ?_
      obtain ⟨hg151, hf⟩ := xg_s hf
      refine xV_laload 152 rfl dX10_determinant_151 rfl (xin_ok hg151) rfl ?_
      refine xV_aload_n 153 rfl dX10_determinant_152 rfl 0 rfl ?_
      refine xV_get (v := .ref 17) 156 rfl dX10_determinant_153 f10_70 rfl rfl ?_
      refine xV_bipush 158 rfl dX10_determinant_156 xk_b8 ?_
      refine xV_iload 160 rfl dX10_determinant_158 4 rfl ?_
      refine xV_imul 161 rfl dX10_determinant_160 ?_
      refine xV_iload 163 rfl dX10_determinant_161 6 rfl ?_
      refine xV_iadd 164 rfl dX10_determinant_163 ?_
      obtain ⟨hg164, hf⟩ := xg_s hf
      refine xV_laload 165 rfl dX10_determinant_164 rfl (xin_ok hg164) rfl ?_
      refine xV_lmul 166 rfl dX10_determinant_165 ?_
      refine xV_lsub 167 rfl dX10_determinant_166 ?_
      refine xV_lload 169 rfl dX10_determinant_167 3 rfl ?_
      obtain ⟨hg169, hf⟩ := xg_s hf
      refine xV_ldiv 170 rfl dX10_determinant_169 (xnzl_ok hg169) ?_
      obtain ⟨hg170, hf⟩ := xg_s hf
      refine xV_lastore (h' := (hM c_thrown c_told c_read c_many c_eights c_gains c_notes c_seen c_turns c_drawn c_state c_tape c_taped c_size c_from c_next c_token c_value c_fault c_number c_fives c_isLeft c_wentTimes c_goes c_isLeftLaid c_game c_rows c_columns c_isFound c_bestValue c_bestBelow c_bestShare c_share (vp_updL c_matrix (xn (((8 : Int32) * x8) + x9)) ((((c_matrix (xn (((8 : Int32) * x8) + x9))) * (c_matrix (xn (((8 : Int32) * x6) + x6)))) - ((c_matrix (xn (((8 : Int32) * x8) + x6))) * (c_matrix (xn (((8 : Int32) * x6) + x9))))) / x4)) c_system c_shares c_allShares)) 171 rfl dX10_determinant_170 rfl (xin_ok hg170) rfl rfl ?_
      refine xV_iinc (L' := [(9, .int (x9 + (1 : Int32))), (0, .ref 0), (1, .int x1), (2, .long x2), (4, .long x4), (6, .int x6), (8, .int x8)]) 174 rfl dX10_determinant_171 6 rfl (xk_inc xk_i1) (xlt rfl) rfl ?_
      refine xV_goto (tgt := 94) dX10_determinant_174 (by decide) ?_
      refine xV_sub [1, 2, 3, 4, 5, 6, 0] rfl ?_
      exact ih hf
def F10_determinant_b82 (z : Nat) (w : Nat) (x1 : Int32) (x2 : Int64) (x4 : Int64) (x6 : Int32) (x8 : Int32) (c_matrix : (Nat → Int64)) (k8 : Int32 → Int64 → Int64 → Int32 → (Nat → Int64) → Option (Int64 × (Nat → Int64))) : Option (Int64 × (Nat → Int64)) := match w with
  | 0 => none
  | w + 1 => if x1 ≤ x8 then (F10_determinant_b183 z x1 x2 x6 c_matrix k8) else (F10_determinant_b94 z z x1 x2 x4 x6 x8 (x6 + (1 : Int32)) c_matrix k8 (fun q0 q1 q2 q3 q4 q5 => F10_determinant_b82 z w q0 q1 q2 q3 q4 q5 k8))
theorem T10_determinant_b82 {X : xX} {c_thrown : Int32} {c_told : (Nat → Int32)} {c_read : (Nat → Int32)} {c_many : (Nat → Int32)} {c_eights : (Nat → Int32)} {c_gains : (Nat → Int32)} {c_notes : (Nat → Int32)} {c_seen : (Nat → Int32)} {c_turns : (Nat → Int32)} {c_drawn : (Nat → Int32)} {c_state : Int32} {c_tape : (Nat → Int32)} {c_taped : Int32} {c_size : Int32} {c_from : Int32} {c_next : Int32} {c_token : Int32} {c_value : Int32} {c_fault : Int32} {c_number : Int32} {c_fives : (Nat → Int32)} {c_isLeft : (Nat → Int32)} {c_wentTimes : Int32} {c_goes : (Nat → Int32)} {c_isLeftLaid : Int32} {c_game : (Nat → Int32)} {c_rows : Int32} {c_columns : Int32} {c_isFound : Int32} {c_bestValue : Int64} {c_bestBelow : Int64} {c_bestShare : (Nat → Int64)} {c_share : (Nat → Int64)} {c_system : (Nat → Int64)} {c_shares : (Nat → Int32)} {c_allShares : Int32} {z : Nat} {v : Int64 × (Nat → Int64)} {k8 : Int32 → Int64 → Int64 → Int32 → (Nat → Int64) → Option (Int64 × (Nat → Int64))} (hX : xIs (j10_determinant) X ((some .long)) (some (.long v.1)) (hM c_thrown c_told c_read c_many c_eights c_gains c_notes c_seen c_turns c_drawn c_state c_tape c_taped c_size c_from c_next c_token c_value c_fault c_number c_fives c_isLeft c_wentTimes c_goes c_isLeftLaid c_game c_rows c_columns c_isFound c_bestValue c_bestBelow c_bestShare c_share v.2 c_system c_shares c_allShares)) (hk8 : ∀ {x1 : Int32} {x2 : Int64} {x4 : Int64} {x6 : Int32} {c_matrix : (Nat → Int64)}, k8 x1 x2 x4 x6 c_matrix = some v → xV (j10_determinant) X 0 0 (hM c_thrown c_told c_read c_many c_eights c_gains c_notes c_seen c_turns c_drawn c_state c_tape c_taped c_size c_from c_next c_token c_value c_fault c_number c_fives c_isLeft c_wentTimes c_goes c_isLeftLaid c_game c_rows c_columns c_isFound c_bestValue c_bestBelow c_bestShare c_share c_matrix c_system c_shares c_allShares) 8 [(0, .ref 0), (1, .int x1), (2, .long x2), (4, .long x4), (6, .int x6)] []) : ∀ (w : Nat) {x1 : Int32} {x2 : Int64} {x4 : Int64} {x6 : Int32} {x8 : Int32} {c_matrix : (Nat → Int64)}, F10_determinant_b82 z w x1 x2 x4 x6 x8 c_matrix k8 = some v → xV (j10_determinant) X 0 0 (hM c_thrown c_told c_read c_many c_eights c_gains c_notes c_seen c_turns c_drawn c_state c_tape c_taped c_size c_from c_next c_token c_value c_fault c_number c_fives c_isLeft c_wentTimes c_goes c_isLeftLaid c_game c_rows c_columns c_isFound c_bestValue c_bestBelow c_bestShare c_share c_matrix c_system c_shares c_allShares) 82 [(0, .ref 0), (1, .int x1), (2, .long x2), (4, .long x4), (6, .int x6), (8, .int x8)] [] := by
  intro w
  induction w with
  | zero => intro x1 x2 x4 x6 x8 c_matrix hf; cases hf
  | succ w ih =>
    intro x1 x2 x4 x6 x8 c_matrix hf
    unfold F10_determinant_b82 at hf
    refine xV_iload 84 rfl dX10_determinant_82 5 rfl ?_
    refine xV_iload_n 85 rfl dX10_determinant_84 rfl 1 rfl ?_
    refine xV_icmp_ge (tgt := 183) 88 rfl dX10_determinant_85 (by decide) (fun h85 => ?_) (fun h85 => ?_)
    · have hf := xif_t hf h85
      refine xV_sub [0, 1, 2, 4] rfl ?_
      exact T10_determinant_b183 hX hk8 hf
    · have hf := xif_f hf h85
      refine xV_iload 90 rfl dX10_determinant_88 4 rfl ?_
      refine xV_iconst 91 rfl dX10_determinant_90 xk_i1 ?_
      refine xV_iadd 92 rfl dX10_determinant_91 ?_
      refine xV_istore (L' := [(9, .int (x6 + (1 : Int32))), (0, .ref 0), (1, .int x1), (2, .long x2), (4, .long x4), (6, .int x6), (8, .int x8)]) 94 rfl dX10_determinant_92 (xlt rfl) rfl ?_
      refine xV_sub [1, 2, 3, 4, 5, 6, 0] rfl ?_
      exact T10_determinant_b94 hX hk8 (fun {_ _ _ _ _ _} hq => ih hq) _ hf
def F10_determinant_b76 (z : Nat) (x1 : Int32) (x2 : Int64) (x4 : Int64) (x6 : Int32) (c_matrix : (Nat → Int64)) (k8 : Int32 → Int64 → Int64 → Int32 → (Nat → Int64) → Option (Int64 × (Nat → Int64))) : Option (Int64 × (Nat → Int64)) :=
  F10_determinant_b82 z z x1 x2 x4 x6 (x6 + (1 : Int32)) c_matrix k8
theorem T10_determinant_b76 {X : xX} {c_thrown : Int32} {c_told : (Nat → Int32)} {c_read : (Nat → Int32)} {c_many : (Nat → Int32)} {c_eights : (Nat → Int32)} {c_gains : (Nat → Int32)} {c_notes : (Nat → Int32)} {c_seen : (Nat → Int32)} {c_turns : (Nat → Int32)} {c_drawn : (Nat → Int32)} {c_state : Int32} {c_tape : (Nat → Int32)} {c_taped : Int32} {c_size : Int32} {c_from : Int32} {c_next : Int32} {c_token : Int32} {c_value : Int32} {c_fault : Int32} {c_number : Int32} {c_fives : (Nat → Int32)} {c_isLeft : (Nat → Int32)} {c_wentTimes : Int32} {c_goes : (Nat → Int32)} {c_isLeftLaid : Int32} {c_game : (Nat → Int32)} {c_rows : Int32} {c_columns : Int32} {c_isFound : Int32} {c_bestValue : Int64} {c_bestBelow : Int64} {c_bestShare : (Nat → Int64)} {c_share : (Nat → Int64)} {c_system : (Nat → Int64)} {c_shares : (Nat → Int32)} {c_allShares : Int32} {x1 : Int32} {x2 : Int64} {x4 : Int64} {x6 : Int32} {c_matrix : (Nat → Int64)} {z : Nat} {v : Int64 × (Nat → Int64)} {k8 : Int32 → Int64 → Int64 → Int32 → (Nat → Int64) → Option (Int64 × (Nat → Int64))} (hX : xIs (j10_determinant) X ((some .long)) (some (.long v.1)) (hM c_thrown c_told c_read c_many c_eights c_gains c_notes c_seen c_turns c_drawn c_state c_tape c_taped c_size c_from c_next c_token c_value c_fault c_number c_fives c_isLeft c_wentTimes c_goes c_isLeftLaid c_game c_rows c_columns c_isFound c_bestValue c_bestBelow c_bestShare c_share v.2 c_system c_shares c_allShares)) (hk8 : ∀ {x1 : Int32} {x2 : Int64} {x4 : Int64} {x6 : Int32} {c_matrix : (Nat → Int64)}, k8 x1 x2 x4 x6 c_matrix = some v → xV (j10_determinant) X 0 0 (hM c_thrown c_told c_read c_many c_eights c_gains c_notes c_seen c_turns c_drawn c_state c_tape c_taped c_size c_from c_next c_token c_value c_fault c_number c_fives c_isLeft c_wentTimes c_goes c_isLeftLaid c_game c_rows c_columns c_isFound c_bestValue c_bestBelow c_bestShare c_share c_matrix c_system c_shares c_allShares) 8 [(0, .ref 0), (1, .int x1), (2, .long x2), (4, .long x4), (6, .int x6)] []) (hf : F10_determinant_b76 z x1 x2 x4 x6 c_matrix k8 = some v) : xV (j10_determinant) X 0 0 (hM c_thrown c_told c_read c_many c_eights c_gains c_notes c_seen c_turns c_drawn c_state c_tape c_taped c_size c_from c_next c_token c_value c_fault c_number c_fives c_isLeft c_wentTimes c_goes c_isLeftLaid c_game c_rows c_columns c_isFound c_bestValue c_bestBelow c_bestShare c_share c_matrix c_system c_shares c_allShares) 76 [(0, .ref 0), (1, .int x1), (2, .long x2), (4, .long x4), (6, .int x6)] [] := by
  unfold F10_determinant_b76 at hf
  refine xV_iload 78 rfl dX10_determinant_76 4 rfl ?_
  refine xV_iconst 79 rfl dX10_determinant_78 xk_i1 ?_
  refine xV_iadd 80 rfl dX10_determinant_79 ?_
  refine xV_istore (L' := [(8, .int (x6 + (1 : Int32))), (0, .ref 0), (1, .int x1), (2, .long x2), (4, .long x4), (6, .int x6)]) 82 rfl dX10_determinant_80 (xlt rfl) rfl ?_
  refine xV_sub [1, 2, 3, 4, 5, 0] rfl ?_
  exact T10_determinant_b82 hX hk8 _ hf
def F10_determinant_b50 (z : Nat) (x1 : Int32) (x2 : Int64) (x4 : Int64) (x6 : Int32) (x7 : Int32) (c_matrix : (Nat → Int64)) (k8 : Int32 → Int64 → Int64 → Int32 → (Nat → Int64) → Option (Int64 × (Nat → Int64))) : Option (Int64 × (Nat → Int64)) :=
  if x7 = x1 then (some ((0 : Int64), c_matrix)) else (if x7 = x6 then (F10_determinant_b76 z x1 x2 x4 x6 c_matrix k8) else ((F10_swaps z x6 x7 c_matrix).bind (fun v70 => F10_determinant_b76 z x1 (-x2) x4 x6 v70 k8)))
theorem T10_determinant_b50 {X : xX} {c_thrown : Int32} {c_told : (Nat → Int32)} {c_read : (Nat → Int32)} {c_many : (Nat → Int32)} {c_eights : (Nat → Int32)} {c_gains : (Nat → Int32)} {c_notes : (Nat → Int32)} {c_seen : (Nat → Int32)} {c_turns : (Nat → Int32)} {c_drawn : (Nat → Int32)} {c_state : Int32} {c_tape : (Nat → Int32)} {c_taped : Int32} {c_size : Int32} {c_from : Int32} {c_next : Int32} {c_token : Int32} {c_value : Int32} {c_fault : Int32} {c_number : Int32} {c_fives : (Nat → Int32)} {c_isLeft : (Nat → Int32)} {c_wentTimes : Int32} {c_goes : (Nat → Int32)} {c_isLeftLaid : Int32} {c_game : (Nat → Int32)} {c_rows : Int32} {c_columns : Int32} {c_isFound : Int32} {c_bestValue : Int64} {c_bestBelow : Int64} {c_bestShare : (Nat → Int64)} {c_share : (Nat → Int64)} {c_system : (Nat → Int64)} {c_shares : (Nat → Int32)} {c_allShares : Int32} {x1 : Int32} {x2 : Int64} {x4 : Int64} {x6 : Int32} {x7 : Int32} {c_matrix : (Nat → Int64)} {z : Nat} {v : Int64 × (Nat → Int64)} {k8 : Int32 → Int64 → Int64 → Int32 → (Nat → Int64) → Option (Int64 × (Nat → Int64))} (hX : xIs (j10_determinant) X ((some .long)) (some (.long v.1)) (hM c_thrown c_told c_read c_many c_eights c_gains c_notes c_seen c_turns c_drawn c_state c_tape c_taped c_size c_from c_next c_token c_value c_fault c_number c_fives c_isLeft c_wentTimes c_goes c_isLeftLaid c_game c_rows c_columns c_isFound c_bestValue c_bestBelow c_bestShare c_share v.2 c_system c_shares c_allShares)) (hk8 : ∀ {x1 : Int32} {x2 : Int64} {x4 : Int64} {x6 : Int32} {c_matrix : (Nat → Int64)}, k8 x1 x2 x4 x6 c_matrix = some v → xV (j10_determinant) X 0 0 (hM c_thrown c_told c_read c_many c_eights c_gains c_notes c_seen c_turns c_drawn c_state c_tape c_taped c_size c_from c_next c_token c_value c_fault c_number c_fives c_isLeft c_wentTimes c_goes c_isLeftLaid c_game c_rows c_columns c_isFound c_bestValue c_bestBelow c_bestShare c_share c_matrix c_system c_shares c_allShares) 8 [(0, .ref 0), (1, .int x1), (2, .long x2), (4, .long x4), (6, .int x6)] []) (hf : F10_determinant_b50 z x1 x2 x4 x6 x7 c_matrix k8 = some v) : xV (j10_determinant) X 0 0 (hM c_thrown c_told c_read c_many c_eights c_gains c_notes c_seen c_turns c_drawn c_state c_tape c_taped c_size c_from c_next c_token c_value c_fault c_number c_fives c_isLeft c_wentTimes c_goes c_isLeftLaid c_game c_rows c_columns c_isFound c_bestValue c_bestBelow c_bestShare c_share c_matrix c_system c_shares c_allShares) 50 [(0, .ref 0), (1, .int x1), (2, .long x2), (4, .long x4), (6, .int x6), (7, .int x7)] [] := by
  unfold F10_determinant_b50 at hf
  refine xV_iload 52 rfl dX10_determinant_50 5 rfl ?_
  refine xV_iload_n 53 rfl dX10_determinant_52 rfl 1 rfl ?_
  refine xV_icmp_ne (tgt := 58) 56 rfl dX10_determinant_53 (by decide) (fun h53 => ?_) (fun h53 => ?_)
  · have hf := xif_f hf h53
    refine xV_iload 60 rfl dX10_determinant_58 5 rfl ?_
    refine xV_iload 62 rfl dX10_determinant_60 4 rfl ?_
    refine xV_icmp_eq (tgt := 76) 65 rfl dX10_determinant_62 (by decide) (fun h62 => ?_) (fun h62 => ?_)
    · have hf := xif_t hf h62
      refine xV_sub [0, 1, 2, 3, 4] rfl ?_
      exact T10_determinant_b76 hX hk8 hf
    · have hf := xif_f hf h62
      refine xV_aload_n 66 rfl dX10_determinant_65 rfl 0 rfl ?_
      refine xV_iload 68 rfl dX10_determinant_66 4 rfl ?_
      refine xV_iload 70 rfl dX10_determinant_68 5 rfl ?_
      obtain ⟨v70, hv70, hf⟩ := xb_s hf
      refine xV_same (rest := []) 73 rfl dX10_determinant_70 rfl (C10_swaps X.1.2.1 hv70) m10_swaps v10_swaps k10_269 rfl rfl rfl rfl rfl (Nat.le_of_ble_eq_true rfl) (Nat.le_of_ble_eq_true rfl) (Nat.le_of_ble_eq_true rfl) ⟨Nat.le_refl _, Nat.le_refl _⟩ ?_
      show xV (j10_determinant) X 0 0 (hM c_thrown c_told c_read c_many c_eights c_gains c_notes c_seen c_turns c_drawn c_state c_tape c_taped c_size c_from c_next c_token c_value c_fault c_number c_fives c_isLeft c_wentTimes c_goes c_isLeftLaid c_game c_rows c_columns c_isFound c_bestValue c_bestBelow c_bestShare c_share v70 c_system c_shares c_allShares) 73 [(0, .ref 0), (1, .int x1), (2, .long x2), (4, .long x4), (6, .int x6), (7, .int x7)] []
      refine xV_lload_n 74 rfl dX10_determinant_73 rfl 2 rfl ?_
      refine xV_lneg 75 rfl dX10_determinant_74 ?_
      refine xV_lstore_n (L' := [(2, .long (-x2)), (0, .ref 0), (1, .int x1), (4, .long x4), (6, .int x6), (7, .int x7)]) 76 rfl dX10_determinant_75 rfl (xlt rfl) rfl ?_
      refine xV_sub [1, 2, 0, 3, 4] rfl ?_
      exact T10_determinant_b76 hX hk8 hf
  · have hf := xif_t hf h53
    refine xV_lconst (v := 0) 57 rfl dX10_determinant_56 (by decide) ?_
    obtain rfl := Option.some.inj hf
    exact xV_lret hX dX10_determinant_57 (Nat.zero_le _) (Nat.zero_le _)
def F10_determinant_b20 (z : Nat) (w : Nat) (x1 : Int32) (x2 : Int64) (x4 : Int64) (x6 : Int32) (x7 : Int32) (c_matrix : (Nat → Int64)) (k8 : Int32 → Int64 → Int64 → Int32 → (Nat → Int64) → Option (Int64 × (Nat → Int64))) : Option (Int64 × (Nat → Int64)) := match w with
  | 0 => none
  | w + 1 => if x1 ≤ x7 then (F10_determinant_b50 z x1 x2 x4 x6 x7 c_matrix k8) else (xg (xin (((8 : Int32) * x7) + x6) 64) (if (lg_cmp (c_matrix (xn (((8 : Int32) * x7) + x6))) (0 : Int64)) = 0 then (F10_determinant_b20 z w x1 x2 x4 x6 (x7 + (1 : Int32)) c_matrix k8) else (F10_determinant_b50 z x1 x2 x4 x6 x7 c_matrix k8)))
theorem T10_determinant_b20 {X : xX} {c_thrown : Int32} {c_told : (Nat → Int32)} {c_read : (Nat → Int32)} {c_many : (Nat → Int32)} {c_eights : (Nat → Int32)} {c_gains : (Nat → Int32)} {c_notes : (Nat → Int32)} {c_seen : (Nat → Int32)} {c_turns : (Nat → Int32)} {c_drawn : (Nat → Int32)} {c_state : Int32} {c_tape : (Nat → Int32)} {c_taped : Int32} {c_size : Int32} {c_from : Int32} {c_next : Int32} {c_token : Int32} {c_value : Int32} {c_fault : Int32} {c_number : Int32} {c_fives : (Nat → Int32)} {c_isLeft : (Nat → Int32)} {c_wentTimes : Int32} {c_goes : (Nat → Int32)} {c_isLeftLaid : Int32} {c_game : (Nat → Int32)} {c_rows : Int32} {c_columns : Int32} {c_isFound : Int32} {c_bestValue : Int64} {c_bestBelow : Int64} {c_bestShare : (Nat → Int64)} {c_share : (Nat → Int64)} {c_system : (Nat → Int64)} {c_shares : (Nat → Int32)} {c_allShares : Int32} {z : Nat} {v : Int64 × (Nat → Int64)} {k8 : Int32 → Int64 → Int64 → Int32 → (Nat → Int64) → Option (Int64 × (Nat → Int64))} (hX : xIs (j10_determinant) X ((some .long)) (some (.long v.1)) (hM c_thrown c_told c_read c_many c_eights c_gains c_notes c_seen c_turns c_drawn c_state c_tape c_taped c_size c_from c_next c_token c_value c_fault c_number c_fives c_isLeft c_wentTimes c_goes c_isLeftLaid c_game c_rows c_columns c_isFound c_bestValue c_bestBelow c_bestShare c_share v.2 c_system c_shares c_allShares)) (hk8 : ∀ {x1 : Int32} {x2 : Int64} {x4 : Int64} {x6 : Int32} {c_matrix : (Nat → Int64)}, k8 x1 x2 x4 x6 c_matrix = some v → xV (j10_determinant) X 0 0 (hM c_thrown c_told c_read c_many c_eights c_gains c_notes c_seen c_turns c_drawn c_state c_tape c_taped c_size c_from c_next c_token c_value c_fault c_number c_fives c_isLeft c_wentTimes c_goes c_isLeftLaid c_game c_rows c_columns c_isFound c_bestValue c_bestBelow c_bestShare c_share c_matrix c_system c_shares c_allShares) 8 [(0, .ref 0), (1, .int x1), (2, .long x2), (4, .long x4), (6, .int x6)] []) : ∀ (w : Nat) {x1 : Int32} {x2 : Int64} {x4 : Int64} {x6 : Int32} {x7 : Int32} {c_matrix : (Nat → Int64)}, F10_determinant_b20 z w x1 x2 x4 x6 x7 c_matrix k8 = some v → xV (j10_determinant) X 0 0 (hM c_thrown c_told c_read c_many c_eights c_gains c_notes c_seen c_turns c_drawn c_state c_tape c_taped c_size c_from c_next c_token c_value c_fault c_number c_fives c_isLeft c_wentTimes c_goes c_isLeftLaid c_game c_rows c_columns c_isFound c_bestValue c_bestBelow c_bestShare c_share c_matrix c_system c_shares c_allShares) 20 [(0, .ref 0), (1, .int x1), (2, .long x2), (4, .long x4), (6, .int x6), (7, .int x7)] [] := by
  intro w
  induction w with
  | zero => intro x1 x2 x4 x6 x7 c_matrix hf; cases hf
  | succ w ih =>
    intro x1 x2 x4 x6 x7 c_matrix hf
    unfold F10_determinant_b20 at hf
    refine xV_iload 22 rfl dX10_determinant_20 5 rfl ?_
    refine xV_iload_n 23 rfl dX10_determinant_22 rfl 1 rfl ?_
    refine xV_icmp_ge (tgt := 50) 26 rfl dX10_determinant_23 (by decide) (fun h23 => ?_) (fun h23 => ?_)
    · have hf := xif_t hf h23
      exact T10_determinant_b50 hX hk8 hf
    · have hf := xif_f hf h23
      refine xV_aload_n 27 rfl dX10_determinant_26 rfl 0 rfl ?_
      refine xV_get (v := .ref 17) 30 rfl dX10_determinant_27 f10_70 rfl rfl ?_
      refine xV_bipush 32 rfl dX10_determinant_30 xk_b8 ?_
      refine xV_iload 34 rfl dX10_determinant_32 5 rfl ?_
      refine xV_imul 35 rfl dX10_determinant_34 ?_
      refine xV_iload 37 rfl dX10_determinant_35 4 rfl ?_
      refine xV_iadd 38 rfl dX10_determinant_37 ?_
      obtain ⟨hg38, hf⟩ := xg_s hf
      refine xV_laload 39 rfl dX10_determinant_38 rfl (xin_ok hg38) rfl ?_
      refine xV_lconst (v := 0) 40 rfl dX10_determinant_39 (by decide) ?_
      refine xV_lcmp 41 rfl dX10_determinant_40 ?_
      refine xV_if_ne (tgt := 50) 44 rfl dX10_determinant_41 (by decide) (fun h41 => ?_) (fun h41 => ?_)
      · have hf := xif_f hf h41
        exact T10_determinant_b50 hX hk8 hf
      · have hf := xif_t hf h41
        refine xV_iinc (L' := [(7, .int (x7 + (1 : Int32))), (0, .ref 0), (1, .int x1), (2, .long x2), (4, .long x4), (6, .int x6)]) 47 rfl dX10_determinant_44 5 rfl (xk_inc xk_i1) (xlt rfl) rfl ?_
        refine xV_goto (tgt := 20) dX10_determinant_47 (by decide) ?_
        refine xV_sub [1, 2, 3, 4, 5, 0] rfl ?_
        exact ih hf
def F10_determinant_b8 (z : Nat) (w : Nat) (x1 : Int32) (x2 : Int64) (x4 : Int64) (x6 : Int32) (c_matrix : (Nat → Int64)) : Option (Int64 × (Nat → Int64)) := match w with
  | 0 => none
  | w + 1 => if (x1 - (1 : Int32)) ≤ x6 then (F10_determinant_b204 z x1 x2 c_matrix) else (F10_determinant_b20 z z x1 x2 x4 x6 x6 c_matrix (fun q0 q1 q2 q3 q4 => F10_determinant_b8 z w q0 q1 q2 q3 q4))
theorem T10_determinant_b8 {X : xX} {c_thrown : Int32} {c_told : (Nat → Int32)} {c_read : (Nat → Int32)} {c_many : (Nat → Int32)} {c_eights : (Nat → Int32)} {c_gains : (Nat → Int32)} {c_notes : (Nat → Int32)} {c_seen : (Nat → Int32)} {c_turns : (Nat → Int32)} {c_drawn : (Nat → Int32)} {c_state : Int32} {c_tape : (Nat → Int32)} {c_taped : Int32} {c_size : Int32} {c_from : Int32} {c_next : Int32} {c_token : Int32} {c_value : Int32} {c_fault : Int32} {c_number : Int32} {c_fives : (Nat → Int32)} {c_isLeft : (Nat → Int32)} {c_wentTimes : Int32} {c_goes : (Nat → Int32)} {c_isLeftLaid : Int32} {c_game : (Nat → Int32)} {c_rows : Int32} {c_columns : Int32} {c_isFound : Int32} {c_bestValue : Int64} {c_bestBelow : Int64} {c_bestShare : (Nat → Int64)} {c_share : (Nat → Int64)} {c_system : (Nat → Int64)} {c_shares : (Nat → Int32)} {c_allShares : Int32} {z : Nat} {v : Int64 × (Nat → Int64)} (hX : xIs (j10_determinant) X ((some .long)) (some (.long v.1)) (hM c_thrown c_told c_read c_many c_eights c_gains c_notes c_seen c_turns c_drawn c_state c_tape c_taped c_size c_from c_next c_token c_value c_fault c_number c_fives c_isLeft c_wentTimes c_goes c_isLeftLaid c_game c_rows c_columns c_isFound c_bestValue c_bestBelow c_bestShare c_share v.2 c_system c_shares c_allShares)) : ∀ (w : Nat) {x1 : Int32} {x2 : Int64} {x4 : Int64} {x6 : Int32} {c_matrix : (Nat → Int64)}, F10_determinant_b8 z w x1 x2 x4 x6 c_matrix = some v → xV (j10_determinant) X 0 0 (hM c_thrown c_told c_read c_many c_eights c_gains c_notes c_seen c_turns c_drawn c_state c_tape c_taped c_size c_from c_next c_token c_value c_fault c_number c_fives c_isLeft c_wentTimes c_goes c_isLeftLaid c_game c_rows c_columns c_isFound c_bestValue c_bestBelow c_bestShare c_share c_matrix c_system c_shares c_allShares) 8 [(0, .ref 0), (1, .int x1), (2, .long x2), (4, .long x4), (6, .int x6)] [] := by
  intro w
  induction w with
  | zero => intro x1 x2 x4 x6 c_matrix hf; cases hf
  | succ w ih =>
    intro x1 x2 x4 x6 c_matrix hf
    unfold F10_determinant_b8 at hf
    refine xV_iload 10 rfl dX10_determinant_8 4 rfl ?_
    refine xV_iload_n 11 rfl dX10_determinant_10 rfl 1 rfl ?_
    refine xV_iconst 12 rfl dX10_determinant_11 xk_i1 ?_
    refine xV_isub 13 rfl dX10_determinant_12 ?_
    refine xV_icmp_ge (tgt := 204) 16 rfl dX10_determinant_13 (by decide) (fun h13 => ?_) (fun h13 => ?_)
    · have hf := xif_t hf h13
      refine xV_sub [0, 1, 2] rfl ?_
      exact T10_determinant_b204 hX hf
    · have hf := xif_f hf h13
      refine xV_iload 18 rfl dX10_determinant_16 4 rfl ?_
      refine xV_istore (L' := [(7, .int x6), (0, .ref 0), (1, .int x1), (2, .long x2), (4, .long x4), (6, .int x6)]) 20 rfl dX10_determinant_18 (xlt rfl) rfl ?_
      refine xV_sub [1, 2, 3, 4, 5, 0] rfl ?_
      exact T10_determinant_b20 hX (fun {_ _ _ _ _} hq => ih hq) _ hf
def F10_determinant (z : Nat) (x1 : Int32) (c_matrix : (Nat → Int64)) : Option (Int64 × (Nat → Int64)) :=
  F10_determinant_b8 z z x1 (1 : Int64) (1 : Int64) (0 : Int32) c_matrix
theorem T10_determinant {X : xX} {z : Nat} {x1 : Int32} {c_matrix : (Nat → Int64)} {c_thrown : Int32} {c_told : (Nat → Int32)} {c_read : (Nat → Int32)} {c_many : (Nat → Int32)} {c_eights : (Nat → Int32)} {c_gains : (Nat → Int32)} {c_notes : (Nat → Int32)} {c_seen : (Nat → Int32)} {c_turns : (Nat → Int32)} {c_drawn : (Nat → Int32)} {c_state : Int32} {c_tape : (Nat → Int32)} {c_taped : Int32} {c_size : Int32} {c_from : Int32} {c_next : Int32} {c_token : Int32} {c_value : Int32} {c_fault : Int32} {c_number : Int32} {c_fives : (Nat → Int32)} {c_isLeft : (Nat → Int32)} {c_wentTimes : Int32} {c_goes : (Nat → Int32)} {c_isLeftLaid : Int32} {c_game : (Nat → Int32)} {c_rows : Int32} {c_columns : Int32} {c_isFound : Int32} {c_bestValue : Int64} {c_bestBelow : Int64} {c_bestShare : (Nat → Int64)} {c_share : (Nat → Int64)} {c_system : (Nat → Int64)} {c_shares : (Nat → Int32)} {c_allShares : Int32} {v : Int64 × (Nat → Int64)} (hX : xIs (j10_determinant) X ((some .long)) (some (.long v.1)) (hM c_thrown c_told c_read c_many c_eights c_gains c_notes c_seen c_turns c_drawn c_state c_tape c_taped c_size c_from c_next c_token c_value c_fault c_number c_fives c_isLeft c_wentTimes c_goes c_isLeftLaid c_game c_rows c_columns c_isFound c_bestValue c_bestBelow c_bestShare c_share v.2 c_system c_shares c_allShares)) (hf : F10_determinant z x1 c_matrix = some v) : xV (j10_determinant) X 0 0 (hM c_thrown c_told c_read c_many c_eights c_gains c_notes c_seen c_turns c_drawn c_state c_tape c_taped c_size c_from c_next c_token c_value c_fault c_number c_fives c_isLeft c_wentTimes c_goes c_isLeftLaid c_game c_rows c_columns c_isFound c_bestValue c_bestBelow c_bestShare c_share c_matrix c_system c_shares c_allShares) 0 [(0, .ref 0), (1, .int x1)] [] := by
  unfold F10_determinant at hf
  refine xV_lconst (v := 1) 1 rfl dX10_determinant_0 (by decide) ?_
  refine xV_lstore_n (L' := [(2, .long (1 : Int64)), (0, .ref 0), (1, .int x1)]) 2 rfl dX10_determinant_1 rfl (xlt rfl) rfl ?_
  refine xV_lconst (v := 1) 3 rfl dX10_determinant_2 (by decide) ?_
  refine xV_lstore (L' := [(4, .long (1 : Int64)), (2, .long (1 : Int64)), (0, .ref 0), (1, .int x1)]) 5 rfl dX10_determinant_3 (xlt rfl) rfl ?_
  refine xV_iconst 6 rfl dX10_determinant_5 xk_i0 ?_
  refine xV_istore (L' := [(6, .int (0 : Int32)), (4, .long (1 : Int64)), (2, .long (1 : Int64)), (0, .ref 0), (1, .int x1)]) 8 rfl dX10_determinant_6 (xlt rfl) rfl ?_
  refine xV_sub [3, 4, 2, 1, 0] rfl ?_
  exact T10_determinant_b8 hX _ hf
theorem C10_determinant (l : Launch) {z : Nat} {x1 : Int32} {c_matrix : (Nat → Int64)} {c_thrown : Int32} {c_told : (Nat → Int32)} {c_read : (Nat → Int32)} {c_many : (Nat → Int32)} {c_eights : (Nat → Int32)} {c_gains : (Nat → Int32)} {c_notes : (Nat → Int32)} {c_seen : (Nat → Int32)} {c_turns : (Nat → Int32)} {c_drawn : (Nat → Int32)} {c_state : Int32} {c_tape : (Nat → Int32)} {c_taped : Int32} {c_size : Int32} {c_from : Int32} {c_next : Int32} {c_token : Int32} {c_value : Int32} {c_fault : Int32} {c_number : Int32} {c_fives : (Nat → Int32)} {c_isLeft : (Nat → Int32)} {c_wentTimes : Int32} {c_goes : (Nat → Int32)} {c_isLeftLaid : Int32} {c_game : (Nat → Int32)} {c_rows : Int32} {c_columns : Int32} {c_isFound : Int32} {c_bestValue : Int64} {c_bestBelow : Int64} {c_bestShare : (Nat → Int64)} {c_share : (Nat → Int64)} {c_system : (Nat → Int64)} {c_shares : (Nat → Int32)} {c_allShares : Int32} {v : Int64 × (Nat → Int64)} (hf : F10_determinant z x1 c_matrix = some v) : xCt l yX10_determinant ((some .long)) j10_determinant [.ref 0, .int x1] (hM c_thrown c_told c_read c_many c_eights c_gains c_notes c_seen c_turns c_drawn c_state c_tape c_taped c_size c_from c_next c_token c_value c_fault c_number c_fives c_isLeft c_wentTimes c_goes c_isLeftLaid c_game c_rows c_columns c_isFound c_bestValue c_bestBelow c_bestShare c_share c_matrix c_system c_shares c_allShares) (some (.long v.1)) (hM c_thrown c_told c_read c_many c_eights c_gains c_notes c_seen c_turns c_drawn c_state c_tape c_taped c_size c_from c_next c_token c_value c_fault c_number c_fives c_isLeft c_wentTimes c_goes c_isLeftLaid c_game c_rows c_columns c_isFound c_bestValue c_bestBelow c_bestShare c_share v.2 c_system c_shares c_allShares) := xCt_of (by decide) rfl (Nat.le_of_ble_eq_true rfl) (fun _ hX => T10_determinant hX hf)
theorem m10_determinant : xMd yX10_determinant RX10 ((some .long)) j10_determinant 1 := ⟨List.mem_of_getElem? (i := 961) (by decide +kernel), List.mem_of_getElem? (i := 5) (by decide +kernel), rfl, by decide +kernel⟩
theorem v10_determinant : xMv yX10_determinant RX10 := ⟨List.mem_of_getElem? (i := 959) (by decide +kernel), List.mem_of_getElem? (i := 960) (by decide +kernel)⟩
