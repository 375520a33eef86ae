def hSl (c_fields : Int32) (c_ties : Int32) (c_forces : (Nat → Int32)) (c_many : (Nat → Int32)) (c_codes : (Nat → Nat → Int32)) : xHp := [.inr (4, [.int c_fields, .int c_ties, .ref 6, .ref 1, .ref 2, .ref 3, .ref 7, .ref 8]), .inl (0, 2, .inl c_forces), .inl (0, 2, .inl c_many), .inl (7, 2, .inr (.inr [4, 5])), .inl (0, 120, .inl (c_codes 0)), .inl (0, 120, .inl (c_codes 1))]
theorem hSl_0 {c_fields : Int32} {c_ties : Int32} {c_forces : (Nat → Int32)} {c_many : (Nat → Int32)} {c_codes : (Nat → Nat → Int32)} : (hSl c_fields c_ties c_forces c_many c_codes)[0]? = some (.inr (4, [.int c_fields, .int c_ties, .ref 6, .ref 1, .ref 2, .ref 3, .ref 7, .ref 8])) := rfl
theorem hSl_1 {c_fields : Int32} {c_ties : Int32} {c_forces : (Nat → Int32)} {c_many : (Nat → Int32)} {c_codes : (Nat → Nat → Int32)} : (hSl c_fields c_ties c_forces c_many c_codes)[1]? = some (.inl (0, 2, .inl c_forces)) := rfl
theorem hSl_2 {c_fields : Int32} {c_ties : Int32} {c_forces : (Nat → Int32)} {c_many : (Nat → Int32)} {c_codes : (Nat → Nat → Int32)} : (hSl c_fields c_ties c_forces c_many c_codes)[2]? = some (.inl (0, 2, .inl c_many)) := rfl
theorem hSl_3 {c_fields : Int32} {c_ties : Int32} {c_forces : (Nat → Int32)} {c_many : (Nat → Int32)} {c_codes : (Nat → Nat → Int32)} : (hSl c_fields c_ties c_forces c_many c_codes)[3]? = some (.inl (7, 2, .inr (.inr [4, 5]))) := rfl
theorem hSl_4 {c_fields : Int32} {c_ties : Int32} {c_forces : (Nat → Int32)} {c_many : (Nat → Int32)} {c_codes : (Nat → Nat → Int32)} : (hSl c_fields c_ties c_forces c_many c_codes)[4]? = some (.inl (0, 120, .inl (c_codes 0))) := rfl
theorem hSl_5 {c_fields : Int32} {c_ties : Int32} {c_forces : (Nat → Int32)} {c_many : (Nat → Int32)} {c_codes : (Nat → Nat → Int32)} : (hSl c_fields c_ties c_forces c_many c_codes)[5]? = some (.inl (0, 120, .inl (c_codes 1))) := rfl
theorem T4l_following_b25 {X : xX} {c_ties : Int32} {c_forces : (Nat → Int32)} {c_many : (Nat → Int32)} {c_codes : (Nat → Nat → Int32)} {x1 : Int32} {x2 : Int32} {x3 : Int32} {c_fields : Int32} {z : Nat} {v : Int32} (hX : xIs (j4_following) X ((some .int)) (some (.int v)) (hSl c_fields c_ties c_forces c_many c_codes)) (hf : F4_following_b25 z x1 x2 x3 c_fields = some v) : xV (j4_following) X 0 0 (hSl c_fields c_ties c_forces c_many c_codes) 25 [(1, .int x1), (2, .int x2), (3, .int x3)] [] := by
  unfold F4_following_b25 at hf
  refine xV_iload_n 26 rfl dX4_following_25 rfl 0 rfl ?_
  refine xV_iload_n 27 rfl dX4_following_26 rfl 2 rfl ?_
  refine xV_iload_n 28 rfl dX4_following_27 rfl 1 rfl ?_
  refine xV_ishl 29 rfl dX4_following_28 ?_
  refine xV_isub 30 rfl dX4_following_29 ?_
  refine xV_bipush 32 rfl dX4_following_30 xy_b8 ?_
  refine xV_iload_n 33 rfl dX4_following_32 rfl 1 rfl ?_
  refine xV_ishl 34 rfl dX4_following_33 ?_
  refine xV_iadd 35 rfl dX4_following_34 ?_
  refine xV_iload_n 36 rfl dX4_following_35 rfl 2 rfl ?_
  refine xV_iadd 37 rfl dX4_following_36 ?_
  refine xV_iconst 38 rfl dX4_following_37 xy_i1 ?_
  refine xV_isub 39 rfl dX4_following_38 ?_
  obtain rfl := Option.some.inj hf
  exact xV_iret hX dX4_following_39 rfl (Nat.zero_le _) (Nat.zero_le _)
theorem T4l_following_b2 {X : xX} {c_fields : Int32} {c_ties : Int32} {c_forces : (Nat → Int32)} {c_many : (Nat → Int32)} {c_codes : (Nat → Nat → Int32)} {z : Nat} {v : Int32} (hX : xIs (j4_following) X ((some .int)) (some (.int v)) (hSl c_fields c_ties c_forces c_many c_codes)) : ∀ (w : Nat) {x1 : Int32} {x2 : Int32}, F4_following_b2 z w x1 x2 c_fields = some v → xV (j4_following) X 0 0 (hSl c_fields c_ties c_forces c_many c_codes) 2 [(0, .ref 0), (1, .int x1), (2, .int x2)] [] := by
  intro w
  induction w with
  | zero => intro x1 x2 hf; cases hf
  | succ w ih =>
    intro x1 x2 hf
    unfold F4_following_b2 at hf
    refine xV_iload_n 3 rfl dX4_following_2 rfl 2 rfl ?_
    refine xV_iconst 4 rfl dX4_following_3 xy_i3 ?_
    refine xV_aload_n 5 rfl dX4_following_4 rfl 0 rfl ?_
    refine xV_get (v := .int c_fields) 8 rfl dX4_following_5 f4_38 rfl rfl ?_
    refine xV_iconst 9 rfl dX4_following_8 xy_i1 ?_
    refine xV_isub 10 rfl dX4_following_9 ?_
    refine xV_imul 11 rfl dX4_following_10 ?_
    refine xV_icmp_ge (tgt := 46) 14 rfl dX4_following_11 (by decide) (fun h11 => ?_) (fun h11 => ?_)
    · have hf := xif_t hf h11
      refine xV_iconst 47 rfl dX4_following_46 xy_im1 ?_
      obtain rfl := Option.some.inj hf
      exact xV_iret hX dX4_following_47 rfl (Nat.zero_le _) (Nat.zero_le _)
    · have hf := xif_f hf h11
      refine xV_iload_n 15 rfl dX4_following_14 rfl 1 rfl ?_
      refine xV_iload_n 16 rfl dX4_following_15 rfl 2 rfl ?_
      refine xV_ishr 17 rfl dX4_following_16 ?_
      refine xV_bipush 19 rfl dX4_following_17 xy_b7 ?_
      refine xV_iand 20 rfl dX4_following_19 ?_
      refine xV_istore_n (L' := [(3, .int ((x1 >>> (x2 &&& 31)) &&& (7 : Int32))), (0, .ref 0), (1, .int x1), (2, .int x2)]) 21 rfl dX4_following_20 rfl (xlt rfl) rfl ?_
      refine xV_iload_n 22 rfl dX4_following_21 rfl 0 rfl ?_
      refine xV_if_le (tgt := 40) 25 rfl dX4_following_22 (by decide) (fun h22 => ?_) (fun h22 => ?_)
      · have hf := xif_t hf h22
        refine xV_iinc (L' := [(2, .int (x2 + (3 : Int32))), (3, .int ((x1 >>> (x2 &&& 31)) &&& (7 : Int32))), (0, .ref 0), (1, .int x1)]) 43 rfl dX4_following_40 3 rfl (xk_inc xy_i3) (xlt rfl) rfl ?_
        refine xV_goto (tgt := 2) dX4_following_43 (by decide) ?_
        refine xV_sub [2, 3, 0] rfl ?_
        exact ih hf
      · have hf := xif_f hf h22
        refine xV_sub [2, 3, 0] rfl ?_
        exact T4l_following_b25 hX hf
theorem T4l_following {X : xX} {z : Nat} {x1 : Int32} {c_fields : Int32} {c_ties : Int32} {c_forces : (Nat → Int32)} {c_many : (Nat → Int32)} {c_codes : (Nat → Nat → Int32)} {v : Int32} (hX : xIs (j4_following) X ((some .int)) (some (.int v)) (hSl c_fields c_ties c_forces c_many c_codes)) (hf : F4_following z x1 c_fields = some v) : xV (j4_following) X 0 0 (hSl c_fields c_ties c_forces c_many c_codes) 0 [(0, .ref 0), (1, .int x1)] [] := by
  unfold F4_following at hf
  refine xV_iconst 1 rfl dX4_following_0 xy_i0 ?_
  refine xV_istore_n (L' := [(2, .int (0 : Int32)), (0, .ref 0), (1, .int x1)]) 2 rfl dX4_following_1 rfl (xlt rfl) rfl ?_
  refine xV_sub [1, 2, 0] rfl ?_
  exact T4l_following_b2 hX _ hf
theorem C4l_following (l : Launch) {z : Nat} {x1 : Int32} {c_fields : Int32} {c_ties : Int32} {c_forces : (Nat → Int32)} {c_many : (Nat → Int32)} {c_codes : (Nat → Nat → Int32)} {v : Int32} (hf : F4_following z x1 c_fields = some v) : xCt l yX4_following ((some .int)) j4_following [.ref 0, .int x1] (hSl c_fields c_ties c_forces c_many c_codes) (some (.int v)) (hSl c_fields c_ties c_forces c_many c_codes) := xCt_of (by decide) rfl (Nat.le_of_ble_eq_true rfl) (fun _ hX => T4l_following hX hf)
theorem T4l_listSplits_b41 {X : xX} {c_ties : Int32} {x1 : Int32} {x3 : Int32} {c_fields : Int32} {c_forces : (Nat → Int32)} {c_many : (Nat → Int32)} {c_codes : (Nat → Nat → Int32)} {z : Nat} {v : (Nat → Int32) × (Nat → Nat → Int32)} (hX : xIs (j4_listSplits) X none none (hSl c_fields c_ties c_forces v.1 v.2)) (hf : F4_listSplits_b41 z x1 x3 c_fields c_forces c_many c_codes = some v) : xV (j4_listSplits) X 0 0 (hSl c_fields c_ties c_forces c_many c_codes) 41 [(0, .ref 0), (1, .int x1), (3, .int x3)] [] := by
  unfold F4_listSplits_b41 at hf
  refine xV_aload_n 42 rfl dX4_listSplits_41 rfl 0 rfl ?_
  refine xV_get (v := .ref 2) 45 rfl dX4_listSplits_42 f4_18 rfl rfl ?_
  refine xV_iload_n 46 rfl dX4_listSplits_45 rfl 1 rfl ?_
  refine xV_iload_n 47 rfl dX4_listSplits_46 rfl 2 rfl ?_
  obtain ⟨hg47, hf⟩ := xg_s hf
  refine xV_iastore (h' := (hSl c_fields c_ties c_forces (upd c_many (xn x1) x3) c_codes)) (j := (xn x1)) 48 rfl dX4_listSplits_47 rfl (xin_ok hg47) rfl rfl ?_
  obtain rfl := Option.some.inj hf
  exact xV_vret hX dX4_listSplits_48 (Nat.zero_le _) (Nat.zero_le _)
theorem T4l_listSplits_b9 {X : xX} {c_fields : Int32} {c_ties : Int32} {c_forces : (Nat → Int32)} {z : Nat} {v : (Nat → Int32) × (Nat → Nat → Int32)} (hX : xIs (j4_listSplits) X none none (hSl c_fields c_ties c_forces v.1 v.2)) : ∀ (w : Nat) {x1 : Int32} {x2 : Int32} {x3 : Int32} {c_many : (Nat → Int32)} {c_codes : (Nat → Nat → Int32)}, F4_listSplits_b9 z w x1 x2 x3 c_fields c_forces c_many c_codes = some v → xV (j4_listSplits) X 0 0 (hSl c_fields c_ties c_forces c_many c_codes) 9 [(0, .ref 0), (1, .int x1), (2, .int x2), (3, .int x3)] [] := by
  intro w
  induction w with
  | zero => intro x1 x2 x3 c_many c_codes hf; cases hf
  | succ w ih =>
    intro x1 x2 x3 c_many c_codes hf
    unfold F4_listSplits_b9 at hf
    refine xV_iload_n 10 rfl dX4_listSplits_9 rfl 3 rfl ?_
    refine xV_bipush 12 rfl dX4_listSplits_10 xy_b120 ?_
    refine xV_icmp_ge (tgt := 41) 15 rfl dX4_listSplits_12 (by decide) (fun h12 => ?_) (fun h12 => ?_)
    · have hf := xif_t hf h12
      refine xV_sub [0, 1, 3] rfl ?_
      exact T4l_listSplits_b41 hX hf
    · have hf := xif_f hf h12
      refine xV_iload_n 16 rfl dX4_listSplits_15 rfl 2 rfl ?_
      refine xV_iconst 17 rfl dX4_listSplits_16 xy_im1 ?_
      refine xV_icmp_eq (tgt := 41) 20 rfl dX4_listSplits_17 (by decide) (fun h17 => ?_) (fun h17 => ?_)
      · have hf := xif_t hf h17
        refine xV_sub [0, 1, 3] rfl ?_
        exact T4l_listSplits_b41 hX hf
      · have hf := xif_f hf h17
        refine xV_aload_n 21 rfl dX4_listSplits_20 rfl 0 rfl ?_
        refine xV_get (v := .ref 3) 24 rfl dX4_listSplits_21 f4_23 rfl rfl ?_
        refine xV_iload_n 25 rfl dX4_listSplits_24 rfl 1 rfl ?_
        obtain ⟨hg25, hf⟩ := xg_s hf
        refine xV_aaload (b := (4 + (xn x1))) 26 rfl dX4_listSplits_25 rfl rfl rfl (xin_ok hg25) (by show ([4, 5] : List Nat)[(xn x1)]? = some (4 + (xn x1)); have hi := xin_lt hg25; generalize (xn x1) = i at hi ⊢; match i, hi with | 0, _ => rfl | 1, _ => rfl) ?_
        refine xV_iload_n 27 rfl dX4_listSplits_26 rfl 3 rfl ?_
        refine xV_iload_n 28 rfl dX4_listSplits_27 rfl 2 rfl ?_
        obtain ⟨hg28, hf⟩ := xg_s hf
        refine xV_iastore (f := (c_codes (xn x1))) (z := 120) (h' := (hSl c_fields c_ties c_forces c_many (va_up c_codes (xn x1) (upd (c_codes (xn x1)) (xn x3) x2)))) (j := (xn x3)) 29 rfl dX4_listSplits_28 (by have hi := (xin_lt hg25); generalize (xn x1) = i at hi ⊢; match i, hi with | 0, _ => exact rfl | 1, _ => exact rfl) (xin_ok hg28) rfl (by have hi := (xin_lt hg25); generalize (xn x1) = i at hi ⊢; match i, hi with | 0, _ => exact rfl | 1, _ => exact rfl) ?_
        refine xV_aload_n 30 rfl dX4_listSplits_29 rfl 0 rfl ?_
        refine xV_iload_n 31 rfl dX4_listSplits_30 rfl 2 rfl ?_
        obtain ⟨v31, hv31, hf⟩ := xb_s hf
        refine xV_same (rest := []) 34 rfl dX4_listSplits_31 rfl (C4l_following X.1.2.1 hv31) m4_following v4_following k4_69 rfl rfl rfl rfl rfl (Nat.le_of_ble_eq_true rfl) (Nat.le_of_ble_eq_true rfl) (Nat.le_of_ble_eq_true rfl) ⟨Nat.le_refl _, Nat.le_refl _⟩ ?_
        show xV (j4_listSplits) X 0 0 (hSl c_fields c_ties c_forces c_many (va_up c_codes (xn x1) (upd (c_codes (xn x1)) (xn x3) x2))) 34 [(0, .ref 0), (1, .int x1), (2, .int x2), (3, .int x3)] [.int v31]
        refine xV_istore_n (L' := [(2, .int v31), (0, .ref 0), (1, .int x1), (3, .int x3)]) 35 rfl dX4_listSplits_34 rfl (xlt rfl) rfl ?_
        refine xV_iinc (L' := [(3, .int (x3 + (1 : Int32))), (2, .int v31), (0, .ref 0), (1, .int x1)]) 38 rfl dX4_listSplits_35 3 rfl (xk_inc xy_i1) (xlt rfl) rfl ?_
        refine xV_goto (tgt := 9) dX4_listSplits_38 (by decide) ?_
        refine xV_sub [2, 3, 1, 0] rfl ?_
        exact ih hf
theorem T4l_listSplits {X : xX} {z : Nat} {x1 : Int32} {c_fields : Int32} {c_forces : (Nat → Int32)} {c_many : (Nat → Int32)} {c_codes : (Nat → Nat → Int32)} {c_ties : Int32} {v : (Nat → Int32) × (Nat → Nat → Int32)} (hX : xIs (j4_listSplits) X none none (hSl c_fields c_ties c_forces v.1 v.2)) (hf : F4_listSplits z x1 c_fields c_forces c_many c_codes = some v) : xV (j4_listSplits) X 0 0 (hSl c_fields c_ties c_forces c_many c_codes) 0 [(0, .ref 0), (1, .int x1)] [] := by
  unfold F4_listSplits at hf
  refine xV_aload_n 1 rfl dX4_listSplits_0 rfl 0 rfl ?_
  refine xV_get (v := .ref 1) 4 rfl dX4_listSplits_1 f4_15 rfl rfl ?_
  refine xV_iload_n 5 rfl dX4_listSplits_4 rfl 1 rfl ?_
  obtain ⟨hg5, hf⟩ := xg_s hf
  refine xV_iaload 6 rfl dX4_listSplits_5 rfl (xin_ok hg5) rfl ?_
  refine xV_istore_n (L' := [(2, .int (c_forces (xn x1))), (0, .ref 0), (1, .int x1)]) 7 rfl dX4_listSplits_6 rfl (xlt rfl) rfl ?_
  refine xV_iconst 8 rfl dX4_listSplits_7 xy_i0 ?_
  refine xV_istore_n (L' := [(3, .int (0 : Int32)), (2, .int (c_forces (xn x1))), (0, .ref 0), (1, .int x1)]) 9 rfl dX4_listSplits_8 rfl (xlt rfl) rfl ?_
  refine xV_sub [2, 3, 1, 0] rfl ?_
  exact T4l_listSplits_b9 hX _ hf
theorem C4l_listSplits (l : Launch) {z : Nat} {x1 : Int32} {c_fields : Int32} {c_forces : (Nat → Int32)} {c_many : (Nat → Int32)} {c_codes : (Nat → Nat → Int32)} {c_ties : Int32} {v : (Nat → Int32) × (Nat → Nat → Int32)} (hf : F4_listSplits z x1 c_fields c_forces c_many c_codes = some v) : xCt l yX4_listSplits none j4_listSplits [.ref 0, .int x1] (hSl c_fields c_ties c_forces c_many c_codes) none (hSl c_fields c_ties c_forces v.1 v.2) := xCt_of (by decide) rfl (Nat.le_of_ble_eq_true rfl) (fun _ hX => T4l_listSplits hX hf)
theorem dX0_init_0 : decode cX0_init 0 = .ok (.aload_n 0, 1) := by decide +kernel
theorem dX0_init_1 : decode cX0_init 1 = .ok (.invokespecial 3, 3) := by decide +kernel
theorem dX0_init_4 : decode cX0_init 4 = .ok (.aload_n 0, 1) := by decide +kernel
theorem dX0_init_5 : decode cX0_init 5 = .ok (.bipush 6, 2) := by decide +kernel
theorem dX0_init_7 : decode cX0_init 7 = .ok (.newarray .int, 2) := by decide +kernel
theorem dX0_init_9 : decode cX0_init 9 = .ok (.putfield 9, 3) := by decide +kernel
theorem dX0_init_12 : decode cX0_init 12 = .ok (.return_, 1) := by decide +kernel
abbrev j0_init : xJ := (cX0_init, 1, RX0, 1, 1, 6)
set_option maxRecDepth 100000 in
theorem T0_init (l : Launch) {X : xX} (hl : X.1.2.1 = l) (hX : xIsN j0_init X 1 (hB (fun _ => 0) 0)) : xV j0_init X 0 0 [.inr (0, [.null, .int 0])] 0 [(0, .ref 0)] [] := by
  refine xV_aload_n 1 rfl dX0_init_0 rfl 0 rfl ?_
  refine xV_objInit 4 rfl dX0_init_1 (List.mem_of_getElem? (i := 60) (by decide +kernel)) (Nat.le_of_ble_eq_true rfl) (Nat.le_of_ble_eq_true rfl) ?_
  refine xV_aload_n 5 rfl dX0_init_4 rfl 0 rfl ?_
  refine xV_bipush (v := 6) 7 rfl dX0_init_5 (by decide) ?_
  refine xV_newaN2 (h' := [.inr (0, [.null, .int 0]), .inl (0, 6, .inl (fun _ => 0))]) (atype := .int) (kd := 0) (a0 := (6, .inl (fun _ => 0))) 1 (by simp only [List.length_cons, List.length_nil]) 9 rfl dX0_init_7 (List.mem_of_getElem? (i := 43) (by decide +kernel)) rfl rfl (xNew0 6) (fun _ => rfl) (by decide) (by decide) (Nat.le_of_ble_eq_true rfl) (Nat.le_of_ble_eq_true rfl) (Nat.le_of_ble_eq_true rfl) rfl (xScL_of rfl) (xScS_of rfl) (by simp only [List.cons_append, List.nil_append]) (fun r1 hr1 => ?_)
  have hX := xIsN_setr hr1 (Nat.le_of_ble_eq_true rfl) hX
  have hl : (xsetr X r1).1.2.1 = l := hl
  generalize xsetr X r1 = X1 at hX hl ⊢
  refine xV_eq (n' := 1) (k' := 6) (Nat.eq_of_beq_eq_true rfl) (Nat.eq_of_beq_eq_true rfl) ?_
  refine xV_putF (h' := [.inr (0, [.ref 1, .int 0]), .inl (0, 6, .inl (fun _ => 0))]) 12 rfl hX dX0_init_9 (⟨_, rfl, by decide, List.mem_of_getElem? (i := 61) (by decide +kernel)⟩ : xFl RX0 9 0 0) rfl (fun q e => by cases e; exact ⟨rfl, rfl⟩) (fun _ => rfl) (fun _ => rfl) (Nat.le_of_ble_eq_true rfl) rfl ?_
  refine xV_vretN (fun j => j) (h' := (hB (fun _ => 0) 0)) (xSub_id _) (fun j hj => by match j, hj with | 0, _ => rfl) hX dX0_init_12 (Nat.le_of_ble_eq_true rfl) (Nat.le_of_ble_eq_true rfl)
theorem C0_init (l : Launch) : xCtN l yX0_init j0_init (.inr (0, [.null, .int 0])) (hB (fun _ => 0) 0) := xCtN_of (by decide) rfl rfl (by decide) (fun X hl hX => T0_init l hl hX)
theorem m0_init : xMd yX0_init RX0 none j0_init 0 := ⟨List.mem_of_getElem? (i := 59) (by decide +kernel), List.mem_of_getElem? (i := 55) (by decide +kernel), rfl, by decide +kernel⟩
theorem dX3_init_0 : decode cX3_init 0 = .ok (.aload_n 0, 1) := by decide +kernel
theorem dX3_init_1 : decode cX3_init 1 = .ok (.invokespecial 3, 3) := by decide +kernel
theorem dX3_init_4 : decode cX3_init 4 = .ok (.aload_n 0, 1) := by decide +kernel
theorem dX3_init_5 : decode cX3_init 5 = .ok (.bipush 8, 2) := by decide +kernel
theorem dX3_init_7 : decode cX3_init 7 = .ok (.newarray .int, 2) := by decide +kernel
theorem dX3_init_9 : decode cX3_init 9 = .ok (.putfield 9, 3) := by decide +kernel
theorem dX3_init_12 : decode cX3_init 12 = .ok (.aload_n 0, 1) := by decide +kernel
theorem dX3_init_13 : decode cX3_init 13 = .ok (.bipush 8, 2) := by decide +kernel
theorem dX3_init_15 : decode cX3_init 15 = .ok (.newarray .int, 2) := by decide +kernel
theorem dX3_init_17 : decode cX3_init 17 = .ok (.putfield 15, 3) := by decide +kernel
theorem dX3_init_20 : decode cX3_init 20 = .ok (.aload_n 0, 1) := by decide +kernel
theorem dX3_init_21 : decode cX3_init 21 = .ok (.bipush 8, 2) := by decide +kernel
theorem dX3_init_23 : decode cX3_init 23 = .ok (.newarray .int, 2) := by decide +kernel
theorem dX3_init_25 : decode cX3_init 25 = .ok (.putfield 18, 3) := by decide +kernel
theorem dX3_init_28 : decode cX3_init 28 = .ok (.return_, 1) := by decide +kernel
abbrev j3_init : xJ := (cX3_init, 1, RX3, 1, 3, 24)
set_option maxRecDepth 100000 in
theorem T3_init (l : Launch) {X : xX} (hl : X.1.2.1 = l) (hX : xIsN j3_init X 1 (hP (fun _ => 0) (fun _ => 0) (fun _ => 0) 0 0 0)) : xV j3_init X 0 0 [.inr (3, [.null, .null, .null, .int 0, .int 0, .int 0])] 0 [(0, .ref 0)] [] := by
  refine xV_aload_n 1 rfl dX3_init_0 rfl 0 rfl ?_
  refine xV_objInit 4 rfl dX3_init_1 (List.mem_of_getElem? (i := 64) (by decide +kernel)) (Nat.le_of_ble_eq_true rfl) (Nat.le_of_ble_eq_true rfl) ?_
  refine xV_aload_n 5 rfl dX3_init_4 rfl 0 rfl ?_
  refine xV_bipush (v := 8) 7 rfl dX3_init_5 (by decide) ?_
  refine xV_newaN2 (h' := [.inr (3, [.null, .null, .null, .int 0, .int 0, .int 0]), .inl (0, 8, .inl (fun _ => 0))]) (atype := .int) (kd := 0) (a0 := (8, .inl (fun _ => 0))) 1 (by simp only [List.length_cons, List.length_nil]) 9 rfl dX3_init_7 (List.mem_of_getElem? (i := 43) (by decide +kernel)) rfl rfl (xNew0 8) (fun _ => rfl) (by decide) (by decide) (Nat.le_of_ble_eq_true rfl) (Nat.le_of_ble_eq_true rfl) (Nat.le_of_ble_eq_true rfl) rfl (xScL_of rfl) (xScS_of rfl) (by simp only [List.cons_append, List.nil_append]) (fun r1 hr1 => ?_)
  have hX := xIsN_setr hr1 (Nat.le_of_ble_eq_true rfl) hX
  have hl : (xsetr X r1).1.2.1 = l := hl
  generalize xsetr X r1 = X1 at hX hl ⊢
  refine xV_eq (n' := 1) (k' := 8) (Nat.eq_of_beq_eq_true rfl) (Nat.eq_of_beq_eq_true rfl) ?_
  refine xV_putF (h' := [.inr (3, [.ref 1, .null, .null, .int 0, .int 0, .int 0]), .inl (0, 8, .inl (fun _ => 0))]) 12 rfl hX dX3_init_9 (⟨_, rfl, by decide, List.mem_of_getElem? (i := 65) (by decide +kernel)⟩ : xFl RX3 9 3 0) rfl (fun q e => by cases e; exact ⟨rfl, rfl⟩) (fun _ => rfl) (fun _ => rfl) (Nat.le_of_ble_eq_true rfl) rfl ?_
  refine xV_aload_n 13 rfl dX3_init_12 rfl 0 rfl ?_
  refine xV_bipush (v := 8) 15 rfl dX3_init_13 (by decide) ?_
  refine xV_newaN2 (h' := [.inr (3, [.ref 1, .null, .null, .int 0, .int 0, .int 0]), .inl (0, 8, .inl (fun _ => 0)), .inl (0, 8, .inl (fun _ => 0))]) (atype := .int) (kd := 0) (a0 := (8, .inl (fun _ => 0))) 2 (by simp only [List.length_cons, List.length_nil]) 17 rfl dX3_init_15 (List.mem_of_getElem? (i := 43) (by decide +kernel)) rfl rfl (xNew0 8) (fun _ => rfl) (by decide) (by decide) (Nat.le_of_ble_eq_true rfl) (Nat.le_of_ble_eq_true rfl) (Nat.le_of_ble_eq_true rfl) rfl (xScL_of rfl) (xScS_of rfl) (by simp only [List.cons_append, List.nil_append]) (fun r2 hr2 => ?_)
  have hX := xIsN_setr hr2 (Nat.le_of_ble_eq_true rfl) hX
  have hl : (xsetr X1 r2).1.2.1 = l := hl
  generalize xsetr X1 r2 = X2 at hX hl ⊢
  refine xV_eq (n' := 2) (k' := 16) (Nat.eq_of_beq_eq_true rfl) (Nat.eq_of_beq_eq_true rfl) ?_
  refine xV_putF (h' := [.inr (3, [.ref 1, .ref 2, .null, .int 0, .int 0, .int 0]), .inl (0, 8, .inl (fun _ => 0)), .inl (0, 8, .inl (fun _ => 0))]) 20 rfl hX dX3_init_17 (⟨_, rfl, by decide, List.mem_of_getElem? (i := 66) (by decide +kernel)⟩ : xFl RX3 15 3 1) rfl (fun q e => by cases e; exact ⟨rfl, rfl⟩) (fun _ => rfl) (fun _ => rfl) (Nat.le_of_ble_eq_true rfl) rfl ?_
  refine xV_aload_n 21 rfl dX3_init_20 rfl 0 rfl ?_
  refine xV_bipush (v := 8) 23 rfl dX3_init_21 (by decide) ?_
  refine xV_newaN2 (h' := [.inr (3, [.ref 1, .ref 2, .null, .int 0, .int 0, .int 0]), .inl (0, 8, .inl (fun _ => 0)), .inl (0, 8, .inl (fun _ => 0)), .inl (0, 8, .inl (fun _ => 0))]) (atype := .int) (kd := 0) (a0 := (8, .inl (fun _ => 0))) 3 (by simp only [List.length_cons, List.length_nil]) 25 rfl dX3_init_23 (List.mem_of_getElem? (i := 43) (by decide +kernel)) rfl rfl (xNew0 8) (fun _ => rfl) (by decide) (by decide) (Nat.le_of_ble_eq_true rfl) (Nat.le_of_ble_eq_true rfl) (Nat.le_of_ble_eq_true rfl) rfl (xScL_of rfl) (xScS_of rfl) (by simp only [List.cons_append, List.nil_append]) (fun r3 hr3 => ?_)
  have hX := xIsN_setr hr3 (Nat.le_of_ble_eq_true rfl) hX
  have hl : (xsetr X2 r3).1.2.1 = l := hl
  generalize xsetr X2 r3 = X3 at hX hl ⊢
  refine xV_eq (n' := 3) (k' := 24) (Nat.eq_of_beq_eq_true rfl) (Nat.eq_of_beq_eq_true rfl) ?_
  refine xV_putF (h' := [.inr (3, [.ref 1, .ref 2, .ref 3, .int 0, .int 0, .int 0]), .inl (0, 8, .inl (fun _ => 0)), .inl (0, 8, .inl (fun _ => 0)), .inl (0, 8, .inl (fun _ => 0))]) 28 rfl hX dX3_init_25 (⟨_, rfl, by decide, List.mem_of_getElem? (i := 67) (by decide +kernel)⟩ : xFl RX3 18 3 2) rfl (fun q e => by cases e; exact ⟨rfl, rfl⟩) (fun _ => rfl) (fun _ => rfl) (Nat.le_of_ble_eq_true rfl) rfl ?_
  refine xV_vretN (fun j => j) (h' := (hP (fun _ => 0) (fun _ => 0) (fun _ => 0) 0 0 0)) (xSub_id _) (fun j hj => by match j, hj with | 0, _ => rfl) hX dX3_init_28 (Nat.le_of_ble_eq_true rfl) (Nat.le_of_ble_eq_true rfl)
theorem C3_init (l : Launch) : xCtN l yX3_init j3_init (.inr (3, [.null, .null, .null, .int 0, .int 0, .int 0])) (hP (fun _ => 0) (fun _ => 0) (fun _ => 0) 0 0 0) := xCtN_of (by decide) rfl rfl (by decide) (fun X hl hX => T3_init l hl hX)
theorem m3_init : xMd yX3_init RX3 none j3_init 0 := ⟨List.mem_of_getElem? (i := 63) (by decide +kernel), List.mem_of_getElem? (i := 57) (by decide +kernel), rfl, by decide +kernel⟩
theorem dX2_init_0 : decode cX2_init 0 = .ok (.aload_n 0, 1) := by decide +kernel
theorem dX2_init_1 : decode cX2_init 1 = .ok (.invokespecial 3, 3) := by decide +kernel
theorem dX2_init_4 : decode cX2_init 4 = .ok (.aload_n 0, 1) := by decide +kernel
theorem dX2_init_5 : decode cX2_init 5 = .ok (.bipush 120, 2) := by decide +kernel
theorem dX2_init_7 : decode cX2_init 7 = .ok (.newarray .int, 2) := by decide +kernel
theorem dX2_init_9 : decode cX2_init 9 = .ok (.putfield 9, 3) := by decide +kernel
theorem dX2_init_12 : decode cX2_init 12 = .ok (.return_, 1) := by decide +kernel
abbrev j2_init : xJ := (cX2_init, 1, RX2, 1, 1, 120)
set_option maxRecDepth 100000 in
theorem T2_init (l : Launch) {X : xX} (hl : X.1.2.1 = l) (hX : xIsN j2_init X 1 (hNt (fun _ => 0) 0)) : xV j2_init X 0 0 [.inr (2, [.null, .int 0])] 0 [(0, .ref 0)] [] := by
  refine xV_aload_n 1 rfl dX2_init_0 rfl 0 rfl ?_
  refine xV_objInit 4 rfl dX2_init_1 (List.mem_of_getElem? (i := 92) (by decide +kernel)) (Nat.le_of_ble_eq_true rfl) (Nat.le_of_ble_eq_true rfl) ?_
  refine xV_aload_n 5 rfl dX2_init_4 rfl 0 rfl ?_
  refine xV_bipush (v := 120) 7 rfl dX2_init_5 (by decide) ?_
  refine xV_newaN2 (h' := [.inr (2, [.null, .int 0]), .inl (0, 120, .inl (fun _ => 0))]) (atype := .int) (kd := 0) (a0 := (120, .inl (fun _ => 0))) 1 (by simp only [List.length_cons, List.length_nil]) 9 rfl dX2_init_7 (List.mem_of_getElem? (i := 43) (by decide +kernel)) rfl rfl (xNew0 120) (fun _ => rfl) (by decide) (by decide) (Nat.le_of_ble_eq_true rfl) (Nat.le_of_ble_eq_true rfl) (Nat.le_of_ble_eq_true rfl) rfl (xScL_of rfl) (xScS_of rfl) (by simp only [List.cons_append, List.nil_append]) (fun r1 hr1 => ?_)
  have hX := xIsN_setr hr1 (Nat.le_of_ble_eq_true rfl) hX
  have hl : (xsetr X r1).1.2.1 = l := hl
  generalize xsetr X r1 = X1 at hX hl ⊢
  refine xV_eq (n' := 1) (k' := 120) (Nat.eq_of_beq_eq_true rfl) (Nat.eq_of_beq_eq_true rfl) ?_
  refine xV_putF (h' := [.inr (2, [.ref 1, .int 0]), .inl (0, 120, .inl (fun _ => 0))]) 12 rfl hX dX2_init_9 (⟨_, rfl, by decide, List.mem_of_getElem? (i := 93) (by decide +kernel)⟩ : xFl RX2 9 2 0) rfl (fun q e => by cases e; exact ⟨rfl, rfl⟩) (fun _ => rfl) (fun _ => rfl) (Nat.le_of_ble_eq_true rfl) rfl ?_
  refine xV_vretN (fun j => j) (h' := (hNt (fun _ => 0) 0)) (xSub_id _) (fun j hj => by match j, hj with | 0, _ => rfl) hX dX2_init_12 (Nat.le_of_ble_eq_true rfl) (Nat.le_of_ble_eq_true rfl)
theorem C2_init (l : Launch) : xCtN l yX2_init j2_init (.inr (2, [.null, .int 0])) (hNt (fun _ => 0) 0) := xCtN_of (by decide) rfl rfl (by decide) (fun X hl hX => T2_init l hl hX)
theorem m2_init : xMd yX2_init RX2 none j2_init 0 := ⟨List.mem_of_getElem? (i := 91) (by decide +kernel), List.mem_of_getElem? (i := 26) (by decide +kernel), rfl, by decide +kernel⟩
theorem dX7_init_0 : decode cX7_init 0 = .ok (.aload_n 0, 1) := by decide +kernel
theorem dX7_init_1 : decode cX7_init 1 = .ok (.invokespecial 3, 3) := by decide +kernel
theorem dX7_init_4 : decode cX7_init 4 = .ok (.aload_n 0, 1) := by decide +kernel
theorem dX7_init_5 : decode cX7_init 5 = .ok (.sipush 300, 3) := by decide +kernel
theorem dX7_init_8 : decode cX7_init 8 = .ok (.newarray .int, 2) := by decide +kernel
theorem dX7_init_10 : decode cX7_init 10 = .ok (.putfield 9, 3) := by decide +kernel
theorem dX7_init_13 : decode cX7_init 13 = .ok (.return_, 1) := by decide +kernel
abbrev j7_init : xJ := (cX7_init, 1, RX7, 1, 1, 300)
set_option maxRecDepth 100000 in
theorem T7_init (l : Launch) {X : xX} (hl : X.1.2.1 = l) (hX : xIsN j7_init X 1 (hT (fun _ => 0) 0 0 0 0 0)) : xV j7_init X 0 0 [.inr (7, [.null, .int 0, .int 0, .int 0, .int 0, .int 0])] 0 [(0, .ref 0)] [] := by
  refine xV_aload_n 1 rfl dX7_init_0 rfl 0 rfl ?_
  refine xV_objInit 4 rfl dX7_init_1 (List.mem_of_getElem? (i := 87) (by decide +kernel)) (Nat.le_of_ble_eq_true rfl) (Nat.le_of_ble_eq_true rfl) ?_
  refine xV_aload_n 5 rfl dX7_init_4 rfl 0 rfl ?_
  refine xV_sipush (v := 300) 8 rfl dX7_init_5 (by decide) ?_
  refine xV_newaN2 (h' := [.inr (7, [.null, .int 0, .int 0, .int 0, .int 0, .int 0]), .inl (0, 300, .inl (fun _ => 0))]) (atype := .int) (kd := 0) (a0 := (300, .inl (fun _ => 0))) 1 (by simp only [List.length_cons, List.length_nil]) 10 rfl dX7_init_8 (List.mem_of_getElem? (i := 43) (by decide +kernel)) rfl rfl (xNew0 300) (fun _ => rfl) (by decide) (by decide) (Nat.le_of_ble_eq_true rfl) (Nat.le_of_ble_eq_true rfl) (Nat.le_of_ble_eq_true rfl) rfl (xScL_of rfl) (xScS_of rfl) (by simp only [List.cons_append, List.nil_append]) (fun r1 hr1 => ?_)
  have hX := xIsN_setr hr1 (Nat.le_of_ble_eq_true rfl) hX
  have hl : (xsetr X r1).1.2.1 = l := hl
  generalize xsetr X r1 = X1 at hX hl ⊢
  refine xV_eq (n' := 1) (k' := 300) (Nat.eq_of_beq_eq_true rfl) (Nat.eq_of_beq_eq_true rfl) ?_
  refine xV_putF (h' := [.inr (7, [.ref 1, .int 0, .int 0, .int 0, .int 0, .int 0]), .inl (0, 300, .inl (fun _ => 0))]) 13 rfl hX dX7_init_10 (⟨_, rfl, by decide, List.mem_of_getElem? (i := 88) (by decide +kernel)⟩ : xFl RX7 9 7 0) rfl (fun q e => by cases e; exact ⟨rfl, rfl⟩) (fun _ => rfl) (fun _ => rfl) (Nat.le_of_ble_eq_true rfl) rfl ?_
  refine xV_vretN (fun j => j) (h' := (hT (fun _ => 0) 0 0 0 0 0)) (xSub_id _) (fun j hj => by match j, hj with | 0, _ => rfl) hX dX7_init_13 (Nat.le_of_ble_eq_true rfl) (Nat.le_of_ble_eq_true rfl)
theorem C7_init (l : Launch) : xCtN l yX7_init j7_init (.inr (7, [.null, .int 0, .int 0, .int 0, .int 0, .int 0])) (hT (fun _ => 0) 0 0 0 0 0) := xCtN_of (by decide) rfl rfl (by decide) (fun X hl hX => T7_init l hl hX)
theorem m7_init : xMd yX7_init RX7 none j7_init 0 := ⟨List.mem_of_getElem? (i := 86) (by decide +kernel), List.mem_of_getElem? (i := 81) (by decide +kernel), rfl, by decide +kernel⟩
theorem dX5_init_0 : decode cX5_init 0 = .ok (.aload_n 0, 1) := by decide +kernel
theorem dX5_init_1 : decode cX5_init 1 = .ok (.invokespecial 3, 3) := by decide +kernel
theorem dX5_init_4 : decode cX5_init 4 = .ok (.aload_n 0, 1) := by decide +kernel
theorem dX5_init_5 : decode cX5_init 5 = .ok (.iconst 2, 1) := by decide +kernel
theorem dX5_init_6 : decode cX5_init 6 = .ok (.bipush 120, 2) := by decide +kernel
theorem dX5_init_8 : decode cX5_init 8 = .ok (.multianewarray 9 2, 4) := by decide +kernel
theorem dX5_init_12 : decode cX5_init 12 = .ok (.putfield 11, 3) := by decide +kernel
theorem dX5_init_15 : decode cX5_init 15 = .ok (.aload_n 0, 1) := by decide +kernel
theorem dX5_init_16 : decode cX5_init 16 = .ok (.iconst 2, 1) := by decide +kernel
theorem dX5_init_17 : decode cX5_init 17 = .ok (.newarray .int, 2) := by decide +kernel
theorem dX5_init_19 : decode cX5_init 19 = .ok (.putfield 16, 3) := by decide +kernel
theorem dX5_init_22 : decode cX5_init 22 = .ok (.aload_n 0, 1) := by decide +kernel
theorem dX5_init_23 : decode cX5_init 23 = .ok (.iconst 1, 1) := by decide +kernel
theorem dX5_init_24 : decode cX5_init 24 = .ok (.putfield 20, 3) := by decide +kernel
theorem dX5_init_27 : decode cX5_init 27 = .ok (.aload_n 0, 1) := by decide +kernel
theorem dX5_init_28 : decode cX5_init 28 = .ok (.iconst 2, 1) := by decide +kernel
theorem dX5_init_29 : decode cX5_init 29 = .ok (.bipush 120, 2) := by decide +kernel
theorem dX5_init_31 : decode cX5_init 31 = .ok (.multianewarray 9 2, 4) := by decide +kernel
theorem dX5_init_35 : decode cX5_init 35 = .ok (.putfield 24, 3) := by decide +kernel
theorem dX5_init_38 : decode cX5_init 38 = .ok (.aload_n 0, 1) := by decide +kernel
theorem dX5_init_39 : decode cX5_init 39 = .ok (.bipush 120, 2) := by decide +kernel
theorem dX5_init_41 : decode cX5_init 41 = .ok (.newarray .int, 2) := by decide +kernel
theorem dX5_init_43 : decode cX5_init 43 = .ok (.putfield 27, 3) := by decide +kernel
theorem dX5_init_46 : decode cX5_init 46 = .ok (.return_, 1) := by decide +kernel
abbrev j5_init : xJ := (cX5_init, 1, RX5, 1, 8, 606)
set_option maxRecDepth 100000 in
theorem T5_init (l : Launch) {X : xX} (hl : X.1.2.1 = l) (hX : xIsN j5_init X 1 (hV (fun _ _ => 0) (fun _ => 0) 0 1 (fun _ _ => 0) (fun _ => 0))) : xV j5_init X 0 0 [.inr (5, [.null, .null, .int 0, .int 0, .null, .null])] 0 [(0, .ref 0)] [] := by
  refine xV_aload_n 1 rfl dX5_init_0 rfl 0 rfl ?_
  refine xV_objInit 4 rfl dX5_init_1 (List.mem_of_getElem? (i := 96) (by decide +kernel)) (Nat.le_of_ble_eq_true rfl) (Nat.le_of_ble_eq_true rfl) ?_
  refine xV_aload_n 5 rfl dX5_init_4 rfl 0 rfl ?_
  refine xV_iconst (v := 2) 6 rfl dX5_init_5 (by decide) ?_
  refine xV_bipush (v := 120) 8 rfl dX5_init_6 (by decide) ?_
  refine xV_mnaN (kd := 7) (kd0 := 0) (ty := .int) (a0 := (120, .inl (fun _ => 0))) 12 rfl dX5_init_8 (List.mem_of_getElem? (i := 97) (by decide +kernel)) (List.mem_of_getElem? (i := 43) (by decide +kernel)) (fun _ _ _ z => z.2.2.2.2.2.2.2.2.1) rfl rfl rfl (by decide) (by decide) (N := 2) (M := 120) (by decide) (by decide) (by decide) (by decide) (by decide) (by decide) (by decide) (Nat.le_of_ble_eq_true rfl) (Nat.le_of_ble_eq_true rfl) (fun _ => rfl) (fun _ => rfl) (xScH_of (Nat.le_refl _) rfl) (xScL_of rfl) (xScS_of rfl) (fun r1 hr1 => ?_)
  have hX := xIsN_setr hr1 (Nat.le_of_ble_eq_true rfl) hX
  have hl : (xsetr X r1).1.2.1 = l := hl
  generalize xsetr X r1 = X1 at hX hl ⊢
  refine xV_eq (n' := 3) (k' := 242) (Nat.eq_of_beq_eq_true rfl) (Nat.eq_of_beq_eq_true rfl) ?_
  refine xV_putF (h' := [.inr (5, [.ref 1, .null, .int 0, .int 0, .null, .null]), .inl (7, 2, .inr (.inr [2, 3])), .inl (0, 120, .inl (fun _ => 0)), .inl (0, 120, .inl (fun _ => 0))]) 15 rfl hX dX5_init_12 (⟨_, rfl, by decide, List.mem_of_getElem? (i := 98) (by decide +kernel)⟩ : xFl RX5 11 5 0) rfl (fun q e => by cases e; exact ⟨rfl, rfl⟩) (fun _ => rfl) (fun _ => rfl) (Nat.le_of_ble_eq_true rfl) rfl ?_
  refine xV_aload_n 16 rfl dX5_init_15 rfl 0 rfl ?_
  refine xV_iconst (v := 2) 17 rfl dX5_init_16 (by decide) ?_
  refine xV_newaN2 (h' := [.inr (5, [.ref 1, .null, .int 0, .int 0, .null, .null]), .inl (7, 2, .inr (.inr [2, 3])), .inl (0, 120, .inl (fun _ => 0)), .inl (0, 120, .inl (fun _ => 0)), .inl (0, 2, .inl (fun _ => 0))]) (atype := .int) (kd := 0) (a0 := (2, .inl (fun _ => 0))) 4 (by simp only [List.length_cons, List.length_nil]) 19 rfl dX5_init_17 (List.mem_of_getElem? (i := 43) (by decide +kernel)) rfl rfl (xNew0 2) (fun _ => rfl) (by decide) (by decide) (Nat.le_of_ble_eq_true rfl) (Nat.le_of_ble_eq_true rfl) (Nat.le_of_ble_eq_true rfl) rfl (xScL_of rfl) (xScS_of rfl) (by simp only [List.cons_append, List.nil_append]) (fun r2 hr2 => ?_)
  have hX := xIsN_setr hr2 (Nat.le_of_ble_eq_true rfl) hX
  have hl : (xsetr X1 r2).1.2.1 = l := hl
  generalize xsetr X1 r2 = X2 at hX hl ⊢
  refine xV_eq (n' := 4) (k' := 244) (Nat.eq_of_beq_eq_true rfl) (Nat.eq_of_beq_eq_true rfl) ?_
  refine xV_putF (h' := [.inr (5, [.ref 1, .ref 4, .int 0, .int 0, .null, .null]), .inl (7, 2, .inr (.inr [2, 3])), .inl (0, 120, .inl (fun _ => 0)), .inl (0, 120, .inl (fun _ => 0)), .inl (0, 2, .inl (fun _ => 0))]) 22 rfl hX dX5_init_19 (⟨_, rfl, by decide, List.mem_of_getElem? (i := 99) (by decide +kernel)⟩ : xFl RX5 16 5 1) rfl (fun q e => by cases e; exact ⟨rfl, rfl⟩) (fun _ => rfl) (fun _ => rfl) (Nat.le_of_ble_eq_true rfl) rfl ?_
  refine xV_aload_n 23 rfl dX5_init_22 rfl 0 rfl ?_
  refine xV_iconst (v := 1) 24 rfl dX5_init_23 (by decide) ?_
  refine xV_put (h' := [.inr (5, [.ref 1, .ref 4, .int 0, .int 1, .null, .null]), .inl (7, 2, .inr (.inr [2, 3])), .inl (0, 120, .inl (fun _ => 0)), .inl (0, 120, .inl (fun _ => 0)), .inl (0, 2, .inl (fun _ => 0))]) 27 rfl dX5_init_24 (⟨_, rfl, by decide, List.mem_of_getElem? (i := 100) (by decide +kernel)⟩ : xFl RX5 20 5 3) rfl (fun q e => by cases e; rfl) (fun _ => rfl) (fun _ => rfl) (Nat.le_of_ble_eq_true rfl) rfl ?_
  refine xV_aload_n 28 rfl dX5_init_27 rfl 0 rfl ?_
  refine xV_iconst (v := 2) 29 rfl dX5_init_28 (by decide) ?_
  refine xV_bipush (v := 120) 31 rfl dX5_init_29 (by decide) ?_
  refine xV_mnaN (kd := 7) (kd0 := 0) (ty := .int) (a0 := (120, .inl (fun _ => 0))) 35 rfl dX5_init_31 (List.mem_of_getElem? (i := 97) (by decide +kernel)) (List.mem_of_getElem? (i := 43) (by decide +kernel)) (fun _ _ _ z => z.2.2.2.2.2.2.2.2.1) rfl rfl rfl (by decide) (by decide) (N := 2) (M := 120) (by decide) (by decide) (by decide) (by decide) (by decide) (by decide) (by decide) (Nat.le_of_ble_eq_true rfl) (Nat.le_of_ble_eq_true rfl) (fun _ => rfl) (fun _ => rfl) (xScH_of (Nat.le_refl _) rfl) (xScL_of rfl) (xScS_of rfl) (fun r3 hr3 => ?_)
  have hX := xIsN_setr hr3 (Nat.le_of_ble_eq_true rfl) hX
  have hl : (xsetr X2 r3).1.2.1 = l := hl
  generalize xsetr X2 r3 = X3 at hX hl ⊢
  refine xV_eq (n' := 7) (k' := 486) (Nat.eq_of_beq_eq_true rfl) (Nat.eq_of_beq_eq_true rfl) ?_
  refine xV_putF (h' := [.inr (5, [.ref 1, .ref 4, .int 0, .int 1, .ref 5, .null]), .inl (7, 2, .inr (.inr [2, 3])), .inl (0, 120, .inl (fun _ => 0)), .inl (0, 120, .inl (fun _ => 0)), .inl (0, 2, .inl (fun _ => 0)), .inl (7, 2, .inr (.inr [6, 7])), .inl (0, 120, .inl (fun _ => 0)), .inl (0, 120, .inl (fun _ => 0))]) 38 rfl hX dX5_init_35 (⟨_, rfl, by decide, List.mem_of_getElem? (i := 101) (by decide +kernel)⟩ : xFl RX5 24 5 4) rfl (fun q e => by cases e; exact ⟨rfl, rfl⟩) (fun _ => rfl) (fun _ => rfl) (Nat.le_of_ble_eq_true rfl) rfl ?_
  refine xV_aload_n 39 rfl dX5_init_38 rfl 0 rfl ?_
  refine xV_bipush (v := 120) 41 rfl dX5_init_39 (by decide) ?_
  refine xV_newaN2 (h' := [.inr (5, [.ref 1, .ref 4, .int 0, .int 1, .ref 5, .null]), .inl (7, 2, .inr (.inr [2, 3])), .inl (0, 120, .inl (fun _ => 0)), .inl (0, 120, .inl (fun _ => 0)), .inl (0, 2, .inl (fun _ => 0)), .inl (7, 2, .inr (.inr [6, 7])), .inl (0, 120, .inl (fun _ => 0)), .inl (0, 120, .inl (fun _ => 0)), .inl (0, 120, .inl (fun _ => 0))]) (atype := .int) (kd := 0) (a0 := (120, .inl (fun _ => 0))) 8 (by simp only [List.length_cons, List.length_nil]) 43 rfl dX5_init_41 (List.mem_of_getElem? (i := 43) (by decide +kernel)) rfl rfl (xNew0 120) (fun _ => rfl) (by decide) (by decide) (Nat.le_of_ble_eq_true rfl) (Nat.le_of_ble_eq_true rfl) (Nat.le_of_ble_eq_true rfl) rfl (xScL_of rfl) (xScS_of rfl) (by simp only [List.cons_append, List.nil_append]) (fun r4 hr4 => ?_)
  have hX := xIsN_setr hr4 (Nat.le_of_ble_eq_true rfl) hX
  have hl : (xsetr X3 r4).1.2.1 = l := hl
  generalize xsetr X3 r4 = X4 at hX hl ⊢
  refine xV_eq (n' := 8) (k' := 606) (Nat.eq_of_beq_eq_true rfl) (Nat.eq_of_beq_eq_true rfl) ?_
  refine xV_putF (h' := [.inr (5, [.ref 1, .ref 4, .int 0, .int 1, .ref 5, .ref 8]), .inl (7, 2, .inr (.inr [2, 3])), .inl (0, 120, .inl (fun _ => 0)), .inl (0, 120, .inl (fun _ => 0)), .inl (0, 2, .inl (fun _ => 0)), .inl (7, 2, .inr (.inr [6, 7])), .inl (0, 120, .inl (fun _ => 0)), .inl (0, 120, .inl (fun _ => 0)), .inl (0, 120, .inl (fun _ => 0))]) 46 rfl hX dX5_init_43 (⟨_, rfl, by decide, List.mem_of_getElem? (i := 102) (by decide +kernel)⟩ : xFl RX5 27 5 5) rfl (fun q e => by cases e; exact ⟨rfl, rfl⟩) (fun _ => rfl) (fun _ => rfl) (Nat.le_of_ble_eq_true rfl) rfl ?_
  refine xV_vretN (fun j => j) (h' := (hV (fun _ _ => 0) (fun _ => 0) 0 1 (fun _ _ => 0) (fun _ => 0))) (xSub_id _) (fun j hj => by match j, hj with | 0, _ => rfl) hX dX5_init_46 (Nat.le_of_ble_eq_true rfl) (Nat.le_of_ble_eq_true rfl)
theorem C5_init (l : Launch) : xCtN l yX5_init j5_init (.inr (5, [.null, .null, .int 0, .int 0, .null, .null])) (hV (fun _ _ => 0) (fun _ => 0) 0 1 (fun _ _ => 0) (fun _ => 0)) := xCtN_of (by decide) rfl rfl (by decide) (fun X hl hX => T5_init l hl hX)
theorem m5_init : xMd yX5_init RX5 none j5_init 0 := ⟨List.mem_of_getElem? (i := 95) (by decide +kernel), List.mem_of_getElem? (i := 29) (by decide +kernel), rfl, by decide +kernel⟩
theorem dX6_init_0 : decode cX6_init 0 = .ok (.aload_n 0, 1) := by decide +kernel
theorem dX6_init_1 : decode cX6_init 1 = .ok (.invokespecial 3, 3) := by decide +kernel
theorem dX6_init_4 : decode cX6_init 4 = .ok (.aload_n 0, 1) := by decide +kernel
theorem dX6_init_5 : decode cX6_init 5 = .ok (.iconst 4, 1) := by decide +kernel
theorem dX6_init_6 : decode cX6_init 6 = .ok (.bipush 8, 2) := by decide +kernel
theorem dX6_init_8 : decode cX6_init 8 = .ok (.multianewarray 9 2, 4) := by decide +kernel
theorem dX6_init_12 : decode cX6_init 12 = .ok (.putfield 11, 3) := by decide +kernel
theorem dX6_init_15 : decode cX6_init 15 = .ok (.return_, 1) := by decide +kernel
abbrev j6_init : xJ := (cX6_init, 1, RX6, 1, 5, 36)
set_option maxRecDepth 100000 in
theorem T6_init (l : Launch) {X : xX} (hl : X.1.2.1 = l) (hX : xIsN j6_init X 1 (hSp 0 (fun _ _ => 0))) : xV j6_init X 0 0 [.inr (6, [.null, .int 0])] 0 [(0, .ref 0)] [] := by
  refine xV_aload_n 1 rfl dX6_init_0 rfl 0 rfl ?_
  refine xV_objInit 4 rfl dX6_init_1 (List.mem_of_getElem? (i := 105) (by decide +kernel)) (Nat.le_of_ble_eq_true rfl) (Nat.le_of_ble_eq_true rfl) ?_
  refine xV_aload_n 5 rfl dX6_init_4 rfl 0 rfl ?_
  refine xV_iconst (v := 4) 6 rfl dX6_init_5 (by decide) ?_
  refine xV_bipush (v := 8) 8 rfl dX6_init_6 (by decide) ?_
  refine xV_mnaN (kd := 7) (kd0 := 0) (ty := .int) (a0 := (8, .inl (fun _ => 0))) 12 rfl dX6_init_8 (List.mem_of_getElem? (i := 106) (by decide +kernel)) (List.mem_of_getElem? (i := 43) (by decide +kernel)) (fun _ _ _ z => z.2.2.2.2.2.2.2.2.1) rfl rfl rfl (by decide) (by decide) (N := 4) (M := 8) (by decide) (by decide) (by decide) (by decide) (by decide) (by decide) (by decide) (Nat.le_of_ble_eq_true rfl) (Nat.le_of_ble_eq_true rfl) (fun _ => rfl) (fun _ => rfl) (xScH_of (Nat.le_refl _) rfl) (xScL_of rfl) (xScS_of rfl) (fun r1 hr1 => ?_)
  have hX := xIsN_setr hr1 (Nat.le_of_ble_eq_true rfl) hX
  have hl : (xsetr X r1).1.2.1 = l := hl
  generalize xsetr X r1 = X1 at hX hl ⊢
  refine xV_eq (n' := 5) (k' := 36) (Nat.eq_of_beq_eq_true rfl) (Nat.eq_of_beq_eq_true rfl) ?_
  refine xV_putF (h' := [.inr (6, [.ref 1, .int 0]), .inl (7, 4, .inr (.inr [2, 3, 4, 5])), .inl (0, 8, .inl (fun _ => 0)), .inl (0, 8, .inl (fun _ => 0)), .inl (0, 8, .inl (fun _ => 0)), .inl (0, 8, .inl (fun _ => 0))]) 15 rfl hX dX6_init_12 (⟨_, rfl, by decide, List.mem_of_getElem? (i := 107) (by decide +kernel)⟩ : xFl RX6 11 6 0) rfl (fun q e => by cases e; exact ⟨rfl, rfl⟩) (fun _ => rfl) (fun _ => rfl) (Nat.le_of_ble_eq_true rfl) rfl ?_
  refine xV_vretN (fun j => j) (h' := (hSp 0 (fun _ _ => 0))) (xSub_id _) (fun j hj => by match j, hj with | 0, _ => rfl) hX dX6_init_15 (Nat.le_of_ble_eq_true rfl) (Nat.le_of_ble_eq_true rfl)
theorem C6_init (l : Launch) : xCtN l yX6_init j6_init (.inr (6, [.null, .int 0])) (hSp 0 (fun _ _ => 0)) := xCtN_of (by decide) rfl rfl (by decide) (fun X hl hX => T6_init l hl hX)
theorem m6_init : xMd yX6_init RX6 none j6_init 0 := ⟨List.mem_of_getElem? (i := 104) (by decide +kernel), List.mem_of_getElem? (i := 33) (by decide +kernel), rfl, by decide +kernel⟩
theorem dX1_init_0 : decode cX1_init 0 = .ok (.aload_n 0, 1) := by decide +kernel
theorem dX1_init_1 : decode cX1_init 1 = .ok (.invokespecial 3, 3) := by decide +kernel
theorem dX1_init_4 : decode cX1_init 4 = .ok (.aload_n 0, 1) := by decide +kernel
theorem dX1_init_5 : decode cX1_init 5 = .ok (.iconst 2, 1) := by decide +kernel
theorem dX1_init_6 : decode cX1_init 6 = .ok (.bipush 6, 2) := by decide +kernel
theorem dX1_init_8 : decode cX1_init 8 = .ok (.multianewarray 9 2, 4) := by decide +kernel
theorem dX1_init_12 : decode cX1_init 12 = .ok (.putfield 11, 3) := by decide +kernel
theorem dX1_init_15 : decode cX1_init 15 = .ok (.aload_n 0, 1) := by decide +kernel
theorem dX1_init_16 : decode cX1_init 16 = .ok (.iconst 2, 1) := by decide +kernel
theorem dX1_init_17 : decode cX1_init 17 = .ok (.newarray .int, 2) := by decide +kernel
theorem dX1_init_19 : decode cX1_init 19 = .ok (.putfield 16, 3) := by decide +kernel
theorem dX1_init_22 : decode cX1_init 22 = .ok (.aload_n 0, 1) := by decide +kernel
theorem dX1_init_23 : decode cX1_init 23 = .ok (.bipush 7, 2) := by decide +kernel
theorem dX1_init_25 : decode cX1_init 25 = .ok (.bipush 7, 2) := by decide +kernel
theorem dX1_init_27 : decode cX1_init 27 = .ok (.multianewarray 20 2, 4) := by decide +kernel
theorem dX1_init_31 : decode cX1_init 31 = .ok (.putfield 22, 3) := by decide +kernel
theorem dX1_init_34 : decode cX1_init 34 = .ok (.aload_n 0, 1) := by decide +kernel
theorem dX1_init_35 : decode cX1_init 35 = .ok (.bipush 6, 2) := by decide +kernel
theorem dX1_init_37 : decode cX1_init 37 = .ok (.newarray .int, 2) := by decide +kernel
theorem dX1_init_39 : decode cX1_init 39 = .ok (.putfield 25, 3) := by decide +kernel
theorem dX1_init_42 : decode cX1_init 42 = .ok (.aload_n 0, 1) := by decide +kernel
theorem dX1_init_43 : decode cX1_init 43 = .ok (.bipush 6, 2) := by decide +kernel
theorem dX1_init_45 : decode cX1_init 45 = .ok (.newarray .int, 2) := by decide +kernel
theorem dX1_init_47 : decode cX1_init 47 = .ok (.putfield 28, 3) := by decide +kernel
theorem dX1_init_50 : decode cX1_init 50 = .ok (.return_, 1) := by decide +kernel
abbrev j1_init : xJ := (cX1_init, 1, RX1, 1, 14, 84)
set_option maxRecDepth 100000 in
theorem T1_init (l : Launch) {X : xX} (hl : X.1.2.1 = l) (hX : xIsN j1_init X 1 (hG (fun _ _ => 0) (fun _ => 0) (fun _ _ => 0) (fun _ => 0) (fun _ => 0) 0 0 0)) : xV j1_init X 0 0 [.inr (1, [.null, .null, .null, .null, .null, .int 0, .int 0, .long 0])] 0 [(0, .ref 0)] [] := by
  refine xV_aload_n 1 rfl dX1_init_0 rfl 0 rfl ?_
  refine xV_objInit 4 rfl dX1_init_1 (List.mem_of_getElem? (i := 110) (by decide +kernel)) (Nat.le_of_ble_eq_true rfl) (Nat.le_of_ble_eq_true rfl) ?_
  refine xV_aload_n 5 rfl dX1_init_4 rfl 0 rfl ?_
  refine xV_iconst (v := 2) 6 rfl dX1_init_5 (by decide) ?_
  refine xV_bipush (v := 6) 8 rfl dX1_init_6 (by decide) ?_
  refine xV_mnaN (kd := 7) (kd0 := 0) (ty := .int) (a0 := (6, .inl (fun _ => 0))) 12 rfl dX1_init_8 (List.mem_of_getElem? (i := 111) (by decide +kernel)) (List.mem_of_getElem? (i := 43) (by decide +kernel)) (fun _ _ _ z => z.2.2.2.2.2.2.2.2.1) rfl rfl rfl (by decide) (by decide) (N := 2) (M := 6) (by decide) (by decide) (by decide) (by decide) (by decide) (by decide) (by decide) (Nat.le_of_ble_eq_true rfl) (Nat.le_of_ble_eq_true rfl) (fun _ => rfl) (fun _ => rfl) (xScH_of (Nat.le_refl _) rfl) (xScL_of rfl) (xScS_of rfl) (fun r1 hr1 => ?_)
  have hX := xIsN_setr hr1 (Nat.le_of_ble_eq_true rfl) hX
  have hl : (xsetr X r1).1.2.1 = l := hl
  generalize xsetr X r1 = X1 at hX hl ⊢
  refine xV_eq (n' := 3) (k' := 14) (Nat.eq_of_beq_eq_true rfl) (Nat.eq_of_beq_eq_true rfl) ?_
  refine xV_putF (h' := [.inr (1, [.ref 1, .null, .null, .null, .null, .int 0, .int 0, .long 0]), .inl (7, 2, .inr (.inr [2, 3])), .inl (0, 6, .inl (fun _ => 0)), .inl (0, 6, .inl (fun _ => 0))]) 15 rfl hX dX1_init_12 (⟨_, rfl, by decide, List.mem_of_getElem? (i := 112) (by decide +kernel)⟩ : xFl RX1 11 1 0) rfl (fun q e => by cases e; exact ⟨rfl, rfl⟩) (fun _ => rfl) (fun _ => rfl) (Nat.le_of_ble_eq_true rfl) rfl ?_
  refine xV_aload_n 16 rfl dX1_init_15 rfl 0 rfl ?_
  refine xV_iconst (v := 2) 17 rfl dX1_init_16 (by decide) ?_
  refine xV_newaN2 (h' := [.inr (1, [.ref 1, .null, .null, .null, .null, .int 0, .int 0, .long 0]), .inl (7, 2, .inr (.inr [2, 3])), .inl (0, 6, .inl (fun _ => 0)), .inl (0, 6, .inl (fun _ => 0)), .inl (0, 2, .inl (fun _ => 0))]) (atype := .int) (kd := 0) (a0 := (2, .inl (fun _ => 0))) 4 (by simp only [List.length_cons, List.length_nil]) 19 rfl dX1_init_17 (List.mem_of_getElem? (i := 43) (by decide +kernel)) rfl rfl (xNew0 2) (fun _ => rfl) (by decide) (by decide) (Nat.le_of_ble_eq_true rfl) (Nat.le_of_ble_eq_true rfl) (Nat.le_of_ble_eq_true rfl) rfl (xScL_of rfl) (xScS_of rfl) (by simp only [List.cons_append, List.nil_append]) (fun r2 hr2 => ?_)
  have hX := xIsN_setr hr2 (Nat.le_of_ble_eq_true rfl) hX
  have hl : (xsetr X1 r2).1.2.1 = l := hl
  generalize xsetr X1 r2 = X2 at hX hl ⊢
  refine xV_eq (n' := 4) (k' := 16) (Nat.eq_of_beq_eq_true rfl) (Nat.eq_of_beq_eq_true rfl) ?_
  refine xV_putF (h' := [.inr (1, [.ref 1, .ref 4, .null, .null, .null, .int 0, .int 0, .long 0]), .inl (7, 2, .inr (.inr [2, 3])), .inl (0, 6, .inl (fun _ => 0)), .inl (0, 6, .inl (fun _ => 0)), .inl (0, 2, .inl (fun _ => 0))]) 22 rfl hX dX1_init_19 (⟨_, rfl, by decide, List.mem_of_getElem? (i := 113) (by decide +kernel)⟩ : xFl RX1 16 1 1) rfl (fun q e => by cases e; exact ⟨rfl, rfl⟩) (fun _ => rfl) (fun _ => rfl) (Nat.le_of_ble_eq_true rfl) rfl ?_
  refine xV_aload_n 23 rfl dX1_init_22 rfl 0 rfl ?_
  refine xV_bipush (v := 7) 25 rfl dX1_init_23 (by decide) ?_
  refine xV_bipush (v := 7) 27 rfl dX1_init_25 (by decide) ?_
  refine xV_mnaN (kd := 8) (kd0 := 1) (ty := .long) (a0 := (7, .inr (.inl (fun _ => 0)))) 31 rfl dX1_init_27 (List.mem_of_getElem? (i := 114) (by decide +kernel)) (List.mem_of_getElem? (i := 6) (by decide +kernel)) (fun _ _ _ z => z.2.2.2.2.2.2.2.2.2) rfl rfl rfl (by decide) (by decide) (N := 7) (M := 7) (by decide) (by decide) (by decide) (by decide) (by decide) (by decide) (by decide) (Nat.le_of_ble_eq_true rfl) (Nat.le_of_ble_eq_true rfl) (fun _ => rfl) (fun _ => rfl) (xScH_of (Nat.le_refl _) rfl) (xScL_of rfl) (xScS_of rfl) (fun r3 hr3 => ?_)
  have hX := xIsN_setr hr3 (Nat.le_of_ble_eq_true rfl) hX
  have hl : (xsetr X2 r3).1.2.1 = l := hl
  generalize xsetr X2 r3 = X3 at hX hl ⊢
  refine xV_eq (n' := 12) (k' := 72) (Nat.eq_of_beq_eq_true rfl) (Nat.eq_of_beq_eq_true rfl) ?_
  refine xV_putF (h' := [.inr (1, [.ref 1, .ref 4, .ref 5, .null, .null, .int 0, .int 0, .long 0]), .inl (7, 2, .inr (.inr [2, 3])), .inl (0, 6, .inl (fun _ => 0)), .inl (0, 6, .inl (fun _ => 0)), .inl (0, 2, .inl (fun _ => 0)), .inl (8, 7, .inr (.inr [6, 7, 8, 9, 10, 11, 12])), .inl (1, 7, .inr (.inl (fun _ => 0))), .inl (1, 7, .inr (.inl (fun _ => 0))), .inl (1, 7, .inr (.inl (fun _ => 0))), .inl (1, 7, .inr (.inl (fun _ => 0))), .inl (1, 7, .inr (.inl (fun _ => 0))), .inl (1, 7, .inr (.inl (fun _ => 0))), .inl (1, 7, .inr (.inl (fun _ => 0)))]) 34 rfl hX dX1_init_31 (⟨_, rfl, by decide, List.mem_of_getElem? (i := 115) (by decide +kernel)⟩ : xFl RX1 22 1 2) rfl (fun q e => by cases e; exact ⟨rfl, rfl⟩) (fun _ => rfl) (fun _ => rfl) (Nat.le_of_ble_eq_true rfl) rfl ?_
  refine xV_aload_n 35 rfl dX1_init_34 rfl 0 rfl ?_
  refine xV_bipush (v := 6) 37 rfl dX1_init_35 (by decide) ?_
  refine xV_newaN2 (h' := [.inr (1, [.ref 1, .ref 4, .ref 5, .null, .null, .int 0, .int 0, .long 0]), .inl (7, 2, .inr (.inr [2, 3])), .inl (0, 6, .inl (fun _ => 0)), .inl (0, 6, .inl (fun _ => 0)), .inl (0, 2, .inl (fun _ => 0)), .inl (8, 7, .inr (.inr [6, 7, 8, 9, 10, 11, 12])), .inl (1, 7, .inr (.inl (fun _ => 0))), .inl (1, 7, .inr (.inl (fun _ => 0))), .inl (1, 7, .inr (.inl (fun _ => 0))), .inl (1, 7, .inr (.inl (fun _ => 0))), .inl (1, 7, .inr (.inl (fun _ => 0))), .inl (1, 7, .inr (.inl (fun _ => 0))), .inl (1, 7, .inr (.inl (fun _ => 0))), .inl (0, 6, .inl (fun _ => 0))]) (atype := .int) (kd := 0) (a0 := (6, .inl (fun _ => 0))) 13 (by simp only [List.length_cons, List.length_nil]) 39 rfl dX1_init_37 (List.mem_of_getElem? (i := 43) (by decide +kernel)) rfl rfl (xNew0 6) (fun _ => rfl) (by decide) (by decide) (Nat.le_of_ble_eq_true rfl) (Nat.le_of_ble_eq_true rfl) (Nat.le_of_ble_eq_true rfl) rfl (xScL_of rfl) (xScS_of rfl) (by simp only [List.cons_append, List.nil_append]) (fun r4 hr4 => ?_)
  have hX := xIsN_setr hr4 (Nat.le_of_ble_eq_true rfl) hX
  have hl : (xsetr X3 r4).1.2.1 = l := hl
  generalize xsetr X3 r4 = X4 at hX hl ⊢
  refine xV_eq (n' := 13) (k' := 78) (Nat.eq_of_beq_eq_true rfl) (Nat.eq_of_beq_eq_true rfl) ?_
  refine xV_putF (h' := [.inr (1, [.ref 1, .ref 4, .ref 5, .ref 13, .null, .int 0, .int 0, .long 0]), .inl (7, 2, .inr (.inr [2, 3])), .inl (0, 6, .inl (fun _ => 0)), .inl (0, 6, .inl (fun _ => 0)), .inl (0, 2, .inl (fun _ => 0)), .inl (8, 7, .inr (.inr [6, 7, 8, 9, 10, 11, 12])), .inl (1, 7, .inr (.inl (fun _ => 0))), .inl (1, 7, .inr (.inl (fun _ => 0))), .inl (1, 7, .inr (.inl (fun _ => 0))), .inl (1, 7, .inr (.inl (fun _ => 0))), .inl (1, 7, .inr (.inl (fun _ => 0))), .inl (1, 7, .inr (.inl (fun _ => 0))), .inl (1, 7, .inr (.inl (fun _ => 0))), .inl (0, 6, .inl (fun _ => 0))]) 42 rfl hX dX1_init_39 (⟨_, rfl, by decide, List.mem_of_getElem? (i := 116) (by decide +kernel)⟩ : xFl RX1 25 1 3) rfl (fun q e => by cases e; exact ⟨rfl, rfl⟩) (fun _ => rfl) (fun _ => rfl) (Nat.le_of_ble_eq_true rfl) rfl ?_
  refine xV_aload_n 43 rfl dX1_init_42 rfl 0 rfl ?_
  refine xV_bipush (v := 6) 45 rfl dX1_init_43 (by decide) ?_
  refine xV_newaN2 (h' := [.inr (1, [.ref 1, .ref 4, .ref 5, .ref 13, .null, .int 0, .int 0, .long 0]), .inl (7, 2, .inr (.inr [2, 3])), .inl (0, 6, .inl (fun _ => 0)), .inl (0, 6, .inl (fun _ => 0)), .inl (0, 2, .inl (fun _ => 0)), .inl (8, 7, .inr (.inr [6, 7, 8, 9, 10, 11, 12])), .inl (1, 7, .inr (.inl (fun _ => 0))), .inl (1, 7, .inr (.inl (fun _ => 0))), .inl (1, 7, .inr (.inl (fun _ => 0))), .inl (1, 7, .inr (.inl (fun _ => 0))), .inl (1, 7, .inr (.inl (fun _ => 0))), .inl (1, 7, .inr (.inl (fun _ => 0))), .inl (1, 7, .inr (.inl (fun _ => 0))), .inl (0, 6, .inl (fun _ => 0)), .inl (0, 6, .inl (fun _ => 0))]) (atype := .int) (kd := 0) (a0 := (6, .inl (fun _ => 0))) 14 (by simp only [List.length_cons, List.length_nil]) 47 rfl dX1_init_45 (List.mem_of_getElem? (i := 43) (by decide +kernel)) rfl rfl (xNew0 6) (fun _ => rfl) (by decide) (by decide) (Nat.le_of_ble_eq_true rfl) (Nat.le_of_ble_eq_true rfl) (Nat.le_of_ble_eq_true rfl) rfl (xScL_of rfl) (xScS_of rfl) (by simp only [List.cons_append, List.nil_append]) (fun r5 hr5 => ?_)
  have hX := xIsN_setr hr5 (Nat.le_of_ble_eq_true rfl) hX
  have hl : (xsetr X4 r5).1.2.1 = l := hl
  generalize xsetr X4 r5 = X5 at hX hl ⊢
  refine xV_eq (n' := 14) (k' := 84) (Nat.eq_of_beq_eq_true rfl) (Nat.eq_of_beq_eq_true rfl) ?_
  refine xV_putF (h' := [.inr (1, [.ref 1, .ref 4, .ref 5, .ref 13, .ref 14, .int 0, .int 0, .long 0]), .inl (7, 2, .inr (.inr [2, 3])), .inl (0, 6, .inl (fun _ => 0)), .inl (0, 6, .inl (fun _ => 0)), .inl (0, 2, .inl (fun _ => 0)), .inl (8, 7, .inr (.inr [6, 7, 8, 9, 10, 11, 12])), .inl (1, 7, .inr (.inl (fun _ => 0))), .inl (1, 7, .inr (.inl (fun _ => 0))), .inl (1, 7, .inr (.inl (fun _ => 0))), .inl (1, 7, .inr (.inl (fun _ => 0))), .inl (1, 7, .inr (.inl (fun _ => 0))), .inl (1, 7, .inr (.inl (fun _ => 0))), .inl (1, 7, .inr (.inl (fun _ => 0))), .inl (0, 6, .inl (fun _ => 0)), .inl (0, 6, .inl (fun _ => 0))]) 50 rfl hX dX1_init_47 (⟨_, rfl, by decide, List.mem_of_getElem? (i := 117) (by decide +kernel)⟩ : xFl RX1 28 1 4) rfl (fun q e => by cases e; exact ⟨rfl, rfl⟩) (fun _ => rfl) (fun _ => rfl) (Nat.le_of_ble_eq_true rfl) rfl ?_
  refine xV_vretN (fun j => j) (h' := (hG (fun _ _ => 0) (fun _ => 0) (fun _ _ => 0) (fun _ => 0) (fun _ => 0) 0 0 0)) (xSub_id _) (fun j hj => by match j, hj with | 0, _ => rfl) hX dX1_init_50 (Nat.le_of_ble_eq_true rfl) (Nat.le_of_ble_eq_true rfl)
theorem C1_init (l : Launch) : xCtN l yX1_init j1_init (.inr (1, [.null, .null, .null, .null, .null, .int 0, .int 0, .long 0])) (hG (fun _ _ => 0) (fun _ => 0) (fun _ _ => 0) (fun _ => 0) (fun _ => 0) 0 0 0) := xCtN_of (by decide) rfl rfl (by decide) (fun X hl hX => T1_init l hl hX)
theorem m1_init : xMd yX1_init RX1 none j1_init 0 := ⟨List.mem_of_getElem? (i := 109) (by decide +kernel), List.mem_of_getElem? (i := 37) (by decide +kernel), rfl, by decide +kernel⟩
