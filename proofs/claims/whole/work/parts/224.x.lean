theorem k8_52 : Cond.methodLink RX8 52 yX7_isWord ∈ wsL_law0 := List.mem_of_getElem? (i := 249) (by decide +kernel)
theorem dX8_readWeight_0 : decode cX8_readWeight 0 = .ok (.aload_n 0, 1) := by decide +kernel
theorem dX8_readWeight_1 : decode cX8_readWeight 1 = .ok (.getfield 12, 3) := by decide +kernel
theorem dX8_readWeight_4 : decode cX8_readWeight 4 = .ok (.ldc 150, 2) := by decide +kernel
theorem dX8_readWeight_6 : decode cX8_readWeight 6 = .ok (.invokevirtual 52, 3) := by decide +kernel
theorem dX8_readWeight_9 : decode cX8_readWeight 9 = .ok (.ifCond .ne 9, 3) := by decide +kernel
theorem dX8_readWeight_12 : decode cX8_readWeight 12 = .ok (.aload_n 0, 1) := by decide +kernel
theorem dX8_readWeight_13 : decode cX8_readWeight 13 = .ok (.iconst 1, 1) := by decide +kernel
theorem dX8_readWeight_14 : decode cX8_readWeight 14 = .ok (.invokevirtual 43, 3) := by decide +kernel
theorem dX8_readWeight_17 : decode cX8_readWeight 17 = .ok (.ireturn, 1) := by decide +kernel
theorem dX8_readWeight_18 : decode cX8_readWeight 18 = .ok (.aload_n 0, 1) := by decide +kernel
theorem dX8_readWeight_19 : decode cX8_readWeight 19 = .ok (.getfield 12, 3) := by decide +kernel
theorem dX8_readWeight_22 : decode cX8_readWeight 22 = .ok (.invokevirtual 40, 3) := by decide +kernel
theorem dX8_readWeight_25 : decode cX8_readWeight 25 = .ok (.aload_n 0, 1) := by decide +kernel
theorem dX8_readWeight_26 : decode cX8_readWeight 26 = .ok (.iconst 1, 1) := by decide +kernel
theorem dX8_readWeight_27 : decode cX8_readWeight 27 = .ok (.bipush 99, 2) := by decide +kernel
theorem dX8_readWeight_29 : decode cX8_readWeight 29 = .ok (.invokevirtual 83, 3) := by decide +kernel
theorem dX8_readWeight_32 : decode cX8_readWeight 32 = .ok (.ireturn, 1) := by decide +kernel
abbrev j8_readWeight : xJ := (cX8_readWeight, 1, RX8, 6, 0, 0)
def F8_readWeight (z : Nat) (c_fault : Int32) (c_t_bytes : (Nat → Int32)) (c_t_kind : Int32) (c_t_from : Int32) (c_t_behind : Int32) (c_t_end : Int32) : Option (Int32 × Int32 × Int32 × Int32 × Int32) :=
  (F7_isWord z 5 c_t_bytes c_t_kind c_t_from c_t_behind).bind (fun v4 => if v4 = 0 then ((F8_refuse (1 : Int32) c_fault c_t_from).bind (fun v14 => xg (xbo v14.1) (some (v14.1, v14.2, c_t_kind, c_t_from, c_t_behind)))) else ((F7_step z c_t_bytes c_t_kind c_t_from c_t_behind c_t_end).bind (fun v22 => (F8_isNumber z (1 : Int32) (99 : Int32) c_fault c_t_bytes v22.1 v22.2.1 v22.2.2).bind (fun v29 => xg (xbo v29.1) (some (v29.1, v29.2, v22.1, v22.2.1, v22.2.2))))))
theorem T8_readWeight {X : xX} {z : Nat} {c_fault : Int32} {c_t_bytes : (Nat → Int32)} {c_t_kind : Int32} {c_t_from : Int32} {c_t_behind : Int32} {c_t_end : Int32} {c_t_many : Int32} {c_s_fields : Int32} {c_s_ties : Int32} {c_s_worth : (Nat → Int32)} {c_s_forces : (Nat → Int32)} {c_s_many : (Nat → Int32)} {c_s_codes : (Nat → Nat → Int32)} {c_s_b_list : (Nat → Nat → Int32)} {c_s_b_many : (Nat → Int32)} {c_s_p_list : (Nat → Nat → Int32)} {c_s_p_weights : (Nat → Nat → Int32)} {c_s_p_drawn : (Nat → Nat → Int32)} {c_s_p_many : (Nat → Int32)} {c_s_p_all : (Nat → Int32)} {c_s_p_turns : (Nat → Int32)} {v : Int32 × Int32 × Int32 × Int32 × Int32} (hX : xIs (j8_readWeight) X ((some .boolean)) (some (.int v.1)) (hLr v.2.1 c_t_bytes c_t_many v.2.2.1 v.2.2.2.1 v.2.2.2.2 c_t_end c_s_fields c_s_ties c_s_worth c_s_forces c_s_many c_s_codes c_s_b_list c_s_b_many c_s_p_list c_s_p_weights c_s_p_drawn c_s_p_many c_s_p_all c_s_p_turns)) (hf : F8_readWeight z c_fault c_t_bytes c_t_kind c_t_from c_t_behind c_t_end = some v) : xV (j8_readWeight) X 0 0 (hLr c_fault c_t_bytes c_t_many c_t_kind c_t_from c_t_behind c_t_end c_s_fields c_s_ties c_s_worth c_s_forces c_s_many c_s_codes c_s_b_list c_s_b_many c_s_p_list c_s_p_weights c_s_p_drawn c_s_p_many c_s_p_all c_s_p_turns) 0 [(0, .ref 0)] [] := by
  unfold F8_readWeight at hf
  refine xV_aload_n 1 rfl dX8_readWeight_0 rfl 0 rfl ?_
  refine xV_get (v := .ref 1) 4 rfl dX8_readWeight_1 f8_12 rfl rfl ?_
  obtain ⟨v4, hv4, hf⟩ := xb_s hf
  refine xV_isWord (g := (fun j => 1 + j)) (hl := (hT c_t_bytes c_t_many c_t_kind c_t_from c_t_behind c_t_end)) (rest := []) (ci := 7) (i := 5) 9 rfl (by decide) dX8_readWeight_4 dX8_readWeight_6 ⟨rfl, rfl⟩ rfl (C7_isWord X.1.2.1 (by decide) hv4) m7_isWord v7_isWord k8_52 rfl rfl (xScH_of (Nat.le_of_ble_eq_true rfl) rfl) e_Lr_T_L1 (Nat.le_of_ble_eq_true rfl) (Nat.le_of_ble_eq_true rfl) (Nat.le_of_ble_eq_true rfl) ⟨Nat.le_refl _, Nat.le_refl _⟩ ?_
  show xV (j8_readWeight) X 0 0 (hLr c_fault c_t_bytes c_t_many c_t_kind c_t_from c_t_behind c_t_end c_s_fields c_s_ties c_s_worth c_s_forces c_s_many c_s_codes c_s_b_list c_s_b_many c_s_p_list c_s_p_weights c_s_p_drawn c_s_p_many c_s_p_all c_s_p_turns) 9 [(0, .ref 0)] [.int v4]
  refine xV_if_ne (tgt := 18) 12 rfl dX8_readWeight_9 (by decide) (fun h9 => ?_) (fun h9 => ?_)
  · have hf := xif_f hf h9
    refine xV_aload_n 19 rfl dX8_readWeight_18 rfl 0 rfl ?_
    refine xV_get (v := .ref 1) 22 rfl dX8_readWeight_19 f8_12 rfl rfl ?_
    obtain ⟨v22, hv22, hf⟩ := xb_s hf
    refine xV_vir2 (g := (fun j => 1 + j)) (hl := (hT c_t_bytes c_t_many c_t_kind c_t_from c_t_behind c_t_end)) (hl' := (hT c_t_bytes c_t_many v22.1 v22.2.1 v22.2.2 c_t_end)) (h' := (hLr c_fault c_t_bytes c_t_many v22.1 v22.2.1 v22.2.2 c_t_end c_s_fields c_s_ties c_s_worth c_s_forces c_s_many c_s_codes c_s_b_list c_s_b_many c_s_p_list c_s_p_weights c_s_p_drawn c_s_p_many c_s_p_all c_s_p_turns)) (rest := []) (ci := 7) 25 rfl dX8_readWeight_22 rfl (C7_step X.1.2.1 hv22) m7_step v7_step k8_40 rfl rfl rfl (e_Lr_T_L1) rfl (Nat.le_of_ble_eq_true rfl) (Nat.le_of_ble_eq_true rfl) (Nat.le_of_ble_eq_true rfl) ⟨Nat.le_refl _, Nat.le_refl _⟩ ?_
    show xV (j8_readWeight) X 0 0 (hLr c_fault c_t_bytes c_t_many v22.1 v22.2.1 v22.2.2 c_t_end c_s_fields c_s_ties c_s_worth c_s_forces c_s_many c_s_codes c_s_b_list c_s_b_many c_s_p_list c_s_p_weights c_s_p_drawn c_s_p_many c_s_p_all c_s_p_turns) 25 [(0, .ref 0)] []
    refine xV_aload_n 26 rfl dX8_readWeight_25 rfl 0 rfl ?_
    refine xV_iconst 27 rfl dX8_readWeight_26 xy_i1 ?_
    refine xV_bipush 29 rfl dX8_readWeight_27 xy_b99 ?_
    obtain ⟨v29, hv29, hf⟩ := xb_s hf
    refine xV_same (rest := []) 32 rfl dX8_readWeight_29 rfl (C8_isNumber X.1.2.1 hv29) m8_isNumber v8_isNumber k8_83 rfl rfl rfl rfl rfl (Nat.le_of_ble_eq_true rfl) (Nat.le_of_ble_eq_true rfl) (Nat.le_of_ble_eq_true rfl) ⟨Nat.le_refl _, Nat.le_refl _⟩ ?_
    show xV (j8_readWeight) X 0 0 (hLr v29.2 c_t_bytes c_t_many v22.1 v22.2.1 v22.2.2 c_t_end c_s_fields c_s_ties c_s_worth c_s_forces c_s_many c_s_codes c_s_b_list c_s_b_many c_s_p_list c_s_p_weights c_s_p_drawn c_s_p_many c_s_p_all c_s_p_turns) 32 [(0, .ref 0)] [.int v29.1]
    obtain ⟨hgr, hf⟩ := xg_s hf
    obtain rfl := Option.some.inj hf
    exact xV_iret hX dX8_readWeight_32 (xbo_ok hgr) (Nat.zero_le _) (Nat.zero_le _)
  · have hf := xif_t hf h9
    refine xV_aload_n 13 rfl dX8_readWeight_12 rfl 0 rfl ?_
    refine xV_iconst 14 rfl dX8_readWeight_13 xy_i1 ?_
    obtain ⟨v14, hv14, hf⟩ := xb_s hf
    refine xV_same (rest := []) 17 rfl dX8_readWeight_14 rfl (C8_refuse X.1.2.1 hv14) m8_refuse v8_refuse k8_43 rfl rfl rfl rfl rfl (Nat.le_of_ble_eq_true rfl) (Nat.le_of_ble_eq_true rfl) (Nat.le_of_ble_eq_true rfl) ⟨Nat.le_refl _, Nat.le_refl _⟩ ?_
    show xV (j8_readWeight) X 0 0 (hLr v14.2 c_t_bytes c_t_many c_t_kind c_t_from c_t_behind c_t_end c_s_fields c_s_ties c_s_worth c_s_forces c_s_many c_s_codes c_s_b_list c_s_b_many c_s_p_list c_s_p_weights c_s_p_drawn c_s_p_many c_s_p_all c_s_p_turns) 17 [(0, .ref 0)] [.int v14.1]
    obtain ⟨hgr, hf⟩ := xg_s hf
    obtain rfl := Option.some.inj hf
    exact xV_iret hX dX8_readWeight_17 (xbo_ok hgr) (Nat.zero_le _) (Nat.zero_le _)
theorem C8_readWeight (l : Launch) {z : Nat} {c_fault : Int32} {c_t_bytes : (Nat → Int32)} {c_t_kind : Int32} {c_t_from : Int32} {c_t_behind : Int32} {c_t_end : Int32} {c_t_many : Int32} {c_s_fields : Int32} {c_s_ties : Int32} {c_s_worth : (Nat → Int32)} {c_s_forces : (Nat → Int32)} {c_s_many : (Nat → Int32)} {c_s_codes : (Nat → Nat → Int32)} {c_s_b_list : (Nat → Nat → Int32)} {c_s_b_many : (Nat → Int32)} {c_s_p_list : (Nat → Nat → Int32)} {c_s_p_weights : (Nat → Nat → Int32)} {c_s_p_drawn : (Nat → Nat → Int32)} {c_s_p_many : (Nat → Int32)} {c_s_p_all : (Nat → Int32)} {c_s_p_turns : (Nat → Int32)} {v : Int32 × Int32 × Int32 × Int32 × Int32} (hf : F8_readWeight z c_fault c_t_bytes c_t_kind c_t_from c_t_behind c_t_end = some v) : xCt l yX8_readWeight ((some .boolean)) j8_readWeight [.ref 0] (hLr c_fault c_t_bytes c_t_many c_t_kind c_t_from c_t_behind c_t_end c_s_fields c_s_ties c_s_worth c_s_forces c_s_many c_s_codes c_s_b_list c_s_b_many c_s_p_list c_s_p_weights c_s_p_drawn c_s_p_many c_s_p_all c_s_p_turns) (some (.int v.1)) (hLr v.2.1 c_t_bytes c_t_many v.2.2.1 v.2.2.2.1 v.2.2.2.2 c_t_end c_s_fields c_s_ties c_s_worth c_s_forces c_s_many c_s_codes c_s_b_list c_s_b_many c_s_p_list c_s_p_weights c_s_p_drawn c_s_p_many c_s_p_all c_s_p_turns) := xCt_of (by decide) rfl (Nat.le_of_ble_eq_true rfl) (fun _ hX => T8_readWeight hX hf)
theorem m8_readWeight : xMd yX8_readWeight RX8 ((some .boolean)) j8_readWeight 0 := ⟨List.mem_of_getElem? (i := 390) (by decide +kernel), List.mem_of_getElem? (i := 19) (by decide +kernel), rfl, by decide +kernel⟩
theorem v8_readWeight : xMv yX8_readWeight RX8 := ⟨List.mem_of_getElem? (i := 388) (by decide +kernel), List.mem_of_getElem? (i := 389) (by decide +kernel)⟩
theorem f8_132 : xFl RX8 132 4 7 := ⟨_, rfl, by decide, List.mem_of_getElem? (i := 381) (by decide +kernel)⟩
theorem k8_136 : Cond.methodLink RX8 136 yX3_clear ∈ wsL_law0 := List.mem_of_getElem? (i := 382) (by decide +kernel)
theorem k8_141 : Cond.methodLink RX8 141 yX3_placeOf ∈ wsL_law0 := List.mem_of_getElem? (i := 383) (by decide +kernel)
theorem k8_144 : Cond.methodLink RX8 144 yX8_readWeight ∈ wsL_law0 := List.mem_of_getElem? (i := 387) (by decide +kernel)
theorem k8_147 : Cond.methodLink RX8 147 yX3_put ∈ wsL_law0 := List.mem_of_getElem? (i := 391) (by decide +kernel)
theorem e_Lr_P_F2 {c_fault : Int32} {c_t_bytes : (Nat → Int32)} {c_t_many : Int32} {c_t_kind : Int32} {c_t_from : Int32} {c_t_behind : Int32} {c_t_end : Int32} {c_s_fields : Int32} {c_s_ties : Int32} {c_s_worth : (Nat → Int32)} {c_s_forces : (Nat → Int32)} {c_s_many : (Nat → Int32)} {c_s_codes : (Nat → Nat → Int32)} {c_s_b_list : (Nat → Nat → Int32)} {c_s_b_many : (Nat → Int32)} {c_s_p_list : (Nat → Nat → Int32)} {c_s_p_weights : (Nat → Nat → Int32)} {c_s_p_drawn : (Nat → Nat → Int32)} {c_s_p_many : (Nat → Int32)} {c_s_p_all : (Nat → Int32)} {c_s_p_turns : (Nat → Int32)} {d_list : (Nat → Int32)} {d_weights : (Nat → Int32)} {d_drawn : (Nat → Int32)} {d_many : Int32} {d_all : Int32} {d_turns : Int32} {i : Nat} (hi : i < 2) {e_s_p_list : (Nat → Nat → Int32)} {e_s_p_weights : (Nat → Nat → Int32)} {e_s_p_drawn : (Nat → Nat → Int32)} {e_s_p_many : (Nat → Int32)} {e_s_p_all : (Nat → Int32)} {e_s_p_turns : (Nat → Int32)} (q_s_p_list : e_s_p_list = va_up c_s_p_list i d_list) (q_s_p_weights : e_s_p_weights = va_up c_s_p_weights i d_weights) (q_s_p_drawn : e_s_p_drawn = va_up c_s_p_drawn i d_drawn) (q_s_p_many : e_s_p_many = va_up c_s_p_many i d_many) (q_s_p_all : e_s_p_all = va_up c_s_p_all i d_all) (q_s_p_turns : e_s_p_turns = va_up c_s_p_turns i d_turns) : xEmb (fun j => (16 + 4 * i) + j) (hP (c_s_p_list i) (c_s_p_weights i) (c_s_p_drawn i) (c_s_p_many i) (c_s_p_all i) (c_s_p_turns i)) (hP d_list d_weights d_drawn d_many d_all d_turns) (hLr c_fault c_t_bytes c_t_many c_t_kind c_t_from c_t_behind c_t_end c_s_fields c_s_ties c_s_worth c_s_forces c_s_many c_s_codes c_s_b_list c_s_b_many c_s_p_list c_s_p_weights c_s_p_drawn c_s_p_many c_s_p_all c_s_p_turns) (hLr c_fault c_t_bytes c_t_many c_t_kind c_t_from c_t_behind c_t_end c_s_fields c_s_ties c_s_worth c_s_forces c_s_many c_s_codes c_s_b_list c_s_b_many e_s_p_list e_s_p_weights e_s_p_drawn e_s_p_many e_s_p_all e_s_p_turns) 3 := by
  subst q_s_p_list
  subst q_s_p_weights
  subst q_s_p_drawn
  subst q_s_p_many
  subst q_s_p_all
  subst q_s_p_turns
  match i, hi with
  | 0, _ => exact ⟨by show xNd _ 4 = true; decide +kernel, And.intro hLr_16 (And.intro hLr_17 (And.intro hLr_18 (And.intro hLr_19 (trivial)))), And.intro hLr_16 (And.intro hLr_17 (And.intro hLr_18 (And.intro hLr_19 (trivial)))), ⟨[0, 1, 2, 3, 4, 5, 6, 7, 8, 9, 10, 11, 12, 13, 14, 15, 20, 21, 22, 23], And.intro (xeq3 hLr_0 hLr_0 rfl) (And.intro (xeq3 hLr_1 hLr_1 rfl) (And.intro (xeq3 hLr_2 hLr_2 rfl) (And.intro (xeq3 hLr_3 hLr_3 rfl) (And.intro (xeq3 hLr_4 hLr_4 rfl) (And.intro (xeq3 hLr_5 hLr_5 rfl) (And.intro (xeq3 hLr_6 hLr_6 rfl) (And.intro (xeq3 hLr_7 hLr_7 rfl) (And.intro (xeq3 hLr_8 hLr_8 rfl) (And.intro (xeq3 hLr_9 hLr_9 rfl) (And.intro (xeq3 hLr_10 hLr_10 rfl) (And.intro (xeq3 hLr_11 hLr_11 rfl) (And.intro (xeq3 hLr_12 hLr_12 rfl) (And.intro (xeq3 hLr_13 hLr_13 rfl) (And.intro (xeq3 hLr_14 hLr_14 rfl) (And.intro (xeq3 hLr_15 hLr_15 rfl) (And.intro (xeq3 hLr_20 hLr_20 rfl) (And.intro (xeq3 hLr_21 hLr_21 rfl) (And.intro (xeq3 hLr_22 hLr_22 rfl) (And.intro (xeq3 hLr_23 hLr_23 rfl) (trivial)))))))))))))))))))), by show xCov _ 4 _ 24 = true; decide +kernel⟩, rfl, ⟨_, hLr_16⟩⟩
  | 1, _ => exact ⟨by show xNd _ 4 = true; decide +kernel, And.intro hLr_20 (And.intro hLr_21 (And.intro hLr_22 (And.intro hLr_23 (trivial)))), And.intro hLr_20 (And.intro hLr_21 (And.intro hLr_22 (And.intro hLr_23 (trivial)))), ⟨[0, 1, 2, 3, 4, 5, 6, 7, 8, 9, 10, 11, 12, 13, 14, 15, 16, 17, 18, 19], And.intro (xeq3 hLr_0 hLr_0 rfl) (And.intro (xeq3 hLr_1 hLr_1 rfl) (And.intro (xeq3 hLr_2 hLr_2 rfl) (And.intro (xeq3 hLr_3 hLr_3 rfl) (And.intro (xeq3 hLr_4 hLr_4 rfl) (And.intro (xeq3 hLr_5 hLr_5 rfl) (And.intro (xeq3 hLr_6 hLr_6 rfl) (And.intro (xeq3 hLr_7 hLr_7 rfl) (And.intro (xeq3 hLr_8 hLr_8 rfl) (And.intro (xeq3 hLr_9 hLr_9 rfl) (And.intro (xeq3 hLr_10 hLr_10 rfl) (And.intro (xeq3 hLr_11 hLr_11 rfl) (And.intro (xeq3 hLr_12 hLr_12 rfl) (And.intro (xeq3 hLr_13 hLr_13 rfl) (And.intro (xeq3 hLr_14 hLr_14 rfl) (And.intro (xeq3 hLr_15 hLr_15 rfl) (And.intro (xeq3 hLr_16 hLr_16 rfl) (And.intro (xeq3 hLr_17 hLr_17 rfl) (And.intro (xeq3 hLr_18 hLr_18 rfl) (And.intro (xeq3 hLr_19 hLr_19 rfl) (trivial)))))))))))))))))))), by show xCov _ 4 _ 24 = true; decide +kernel⟩, rfl, ⟨_, hLr_20⟩⟩
theorem dX8_readPlan_0 : decode cX8_readPlan 0 = .ok (.aload_n 0, 1) := by decide +kernel
theorem dX8_readPlan_1 : decode cX8_readPlan 1 = .ok (.invokevirtual 108, 3) := by decide +kernel
theorem dX8_readPlan_4 : decode cX8_readPlan 4 = .ok (.istore_n 1, 1) := by decide +kernel
theorem dX8_readPlan_5 : decode cX8_readPlan 5 = .ok (.iload_n 1, 1) := by decide +kernel
theorem dX8_readPlan_6 : decode cX8_readPlan 6 = .ok (.invokestatic 111, 3) := by decide +kernel
theorem dX8_readPlan_9 : decode cX8_readPlan 9 = .ok (.ifCond .ne 5, 3) := by decide +kernel
theorem dX8_readPlan_12 : decode cX8_readPlan 12 = .ok (.iconst 0, 1) := by decide +kernel
theorem dX8_readPlan_13 : decode cX8_readPlan 13 = .ok (.ireturn, 1) := by decide +kernel
theorem dX8_readPlan_14 : decode cX8_readPlan 14 = .ok (.aload_n 0, 1) := by decide +kernel
theorem dX8_readPlan_15 : decode cX8_readPlan 15 = .ok (.getfield 21, 3) := by decide +kernel
theorem dX8_readPlan_18 : decode cX8_readPlan 18 = .ok (.getfield 132, 3) := by decide +kernel
theorem dX8_readPlan_21 : decode cX8_readPlan 21 = .ok (.iload_n 1, 1) := by decide +kernel
theorem dX8_readPlan_22 : decode cX8_readPlan 22 = .ok (.aaload, 1) := by decide +kernel
theorem dX8_readPlan_23 : decode cX8_readPlan 23 = .ok (.astore_n 2, 1) := by decide +kernel
theorem dX8_readPlan_24 : decode cX8_readPlan 24 = .ok (.aload_n 2, 1) := by decide +kernel
theorem dX8_readPlan_25 : decode cX8_readPlan 25 = .ok (.invokevirtual 136, 3) := by decide +kernel
theorem dX8_readPlan_28 : decode cX8_readPlan 28 = .ok (.iconst 0, 1) := by decide +kernel
theorem dX8_readPlan_29 : decode cX8_readPlan 29 = .ok (.istore_n 3, 1) := by decide +kernel
theorem dX8_readPlan_30 : decode cX8_readPlan 30 = .ok (.iload_n 3, 1) := by decide +kernel
theorem dX8_readPlan_31 : decode cX8_readPlan 31 = .ok (.ifCond .eq 14, 3) := by decide +kernel
theorem dX8_readPlan_34 : decode cX8_readPlan 34 = .ok (.aload_n 0, 1) := by decide +kernel
theorem dX8_readPlan_35 : decode cX8_readPlan 35 = .ok (.getfield 12, 3) := by decide +kernel
theorem dX8_readPlan_38 : decode cX8_readPlan 38 = .ok (.getfield 37, 3) := by decide +kernel
theorem dX8_readPlan_41 : decode cX8_readPlan 41 = .ok (.iconst 2, 1) := by decide +kernel
theorem dX8_readPlan_42 : decode cX8_readPlan 42 = .ok (.if_icmp .ne 103, 3) := by decide +kernel
theorem dX8_readPlan_45 : decode cX8_readPlan 45 = .ok (.aload_n 0, 1) := by decide +kernel
theorem dX8_readPlan_46 : decode cX8_readPlan 46 = .ok (.getfield 12, 3) := by decide +kernel
theorem dX8_readPlan_49 : decode cX8_readPlan 49 = .ok (.getfield 37, 3) := by decide +kernel
theorem dX8_readPlan_52 : decode cX8_readPlan 52 = .ok (.iconst 2, 1) := by decide +kernel
theorem dX8_readPlan_53 : decode cX8_readPlan 53 = .ok (.if_icmp .eq 9, 3) := by decide +kernel
theorem dX8_readPlan_56 : decode cX8_readPlan 56 = .ok (.aload_n 0, 1) := by decide +kernel
theorem dX8_readPlan_57 : decode cX8_readPlan 57 = .ok (.iconst 1, 1) := by decide +kernel
theorem dX8_readPlan_58 : decode cX8_readPlan 58 = .ok (.invokevirtual 43, 3) := by decide +kernel
theorem dX8_readPlan_61 : decode cX8_readPlan 61 = .ok (.ireturn, 1) := by decide +kernel
theorem dX8_readPlan_62 : decode cX8_readPlan 62 = .ok (.aload_n 0, 1) := by decide +kernel
theorem dX8_readPlan_63 : decode cX8_readPlan 63 = .ok (.iload_n 1, 1) := by decide +kernel
theorem dX8_readPlan_64 : decode cX8_readPlan 64 = .ok (.invokevirtual 123, 3) := by decide +kernel
theorem dX8_readPlan_67 : decode cX8_readPlan 67 = .ok (.istore 4, 2) := by decide +kernel
theorem dX8_readPlan_69 : decode cX8_readPlan 69 = .ok (.iload 4, 2) := by decide +kernel
theorem dX8_readPlan_71 : decode cX8_readPlan 71 = .ok (.iconst (-1), 1) := by decide +kernel
theorem dX8_readPlan_72 : decode cX8_readPlan 72 = .ok (.if_icmp .eq 13, 3) := by decide +kernel
theorem dX8_readPlan_75 : decode cX8_readPlan 75 = .ok (.aload_n 2, 1) := by decide +kernel
theorem dX8_readPlan_76 : decode cX8_readPlan 76 = .ok (.iload 4, 2) := by decide +kernel
theorem dX8_readPlan_78 : decode cX8_readPlan 78 = .ok (.invokevirtual 141, 3) := by decide +kernel
theorem dX8_readPlan_81 : decode cX8_readPlan 81 = .ok (.iconst (-1), 1) := by decide +kernel
theorem dX8_readPlan_82 : decode cX8_readPlan 82 = .ok (.if_icmp .eq 9, 3) := by decide +kernel
theorem dX8_readPlan_85 : decode cX8_readPlan 85 = .ok (.aload_n 0, 1) := by decide +kernel
theorem dX8_readPlan_86 : decode cX8_readPlan 86 = .ok (.iconst 3, 1) := by decide +kernel
theorem dX8_readPlan_87 : decode cX8_readPlan 87 = .ok (.invokevirtual 43, 3) := by decide +kernel
theorem dX8_readPlan_90 : decode cX8_readPlan 90 = .ok (.ireturn, 1) := by decide +kernel
theorem dX8_readPlan_91 : decode cX8_readPlan 91 = .ok (.iload_n 3, 1) := by decide +kernel
theorem dX8_readPlan_92 : decode cX8_readPlan 92 = .ok (.bipush 8, 2) := by decide +kernel
theorem dX8_readPlan_94 : decode cX8_readPlan 94 = .ok (.if_icmp .lt 9, 3) := by decide +kernel
theorem dX8_readPlan_97 : decode cX8_readPlan 97 = .ok (.aload_n 0, 1) := by decide +kernel
theorem dX8_readPlan_98 : decode cX8_readPlan 98 = .ok (.iconst 4, 1) := by decide +kernel
theorem dX8_readPlan_99 : decode cX8_readPlan 99 = .ok (.invokevirtual 43, 3) := by decide +kernel
theorem dX8_readPlan_102 : decode cX8_readPlan 102 = .ok (.ireturn, 1) := by decide +kernel
theorem dX8_readPlan_103 : decode cX8_readPlan 103 = .ok (.aload_n 0, 1) := by decide +kernel
theorem dX8_readPlan_104 : decode cX8_readPlan 104 = .ok (.getfield 12, 3) := by decide +kernel
theorem dX8_readPlan_107 : decode cX8_readPlan 107 = .ok (.invokevirtual 40, 3) := by decide +kernel
theorem dX8_readPlan_110 : decode cX8_readPlan 110 = .ok (.aload_n 0, 1) := by decide +kernel
theorem dX8_readPlan_111 : decode cX8_readPlan 111 = .ok (.invokevirtual 144, 3) := by decide +kernel
theorem dX8_readPlan_114 : decode cX8_readPlan 114 = .ok (.ifCond .ne 5, 3) := by decide +kernel
theorem dX8_readPlan_117 : decode cX8_readPlan 117 = .ok (.iconst 0, 1) := by decide +kernel
theorem dX8_readPlan_118 : decode cX8_readPlan 118 = .ok (.ireturn, 1) := by decide +kernel
theorem dX8_readPlan_119 : decode cX8_readPlan 119 = .ok (.aload_n 2, 1) := by decide +kernel
theorem dX8_readPlan_120 : decode cX8_readPlan 120 = .ok (.iload 4, 2) := by decide +kernel
theorem dX8_readPlan_122 : decode cX8_readPlan 122 = .ok (.aload_n 0, 1) := by decide +kernel
theorem dX8_readPlan_123 : decode cX8_readPlan 123 = .ok (.getfield 12, 3) := by decide +kernel
theorem dX8_readPlan_126 : decode cX8_readPlan 126 = .ok (.invokevirtual 79, 3) := by decide +kernel
theorem dX8_readPlan_129 : decode cX8_readPlan 129 = .ok (.invokevirtual 147, 3) := by decide +kernel
theorem dX8_readPlan_132 : decode cX8_readPlan 132 = .ok (.aload_n 0, 1) := by decide +kernel
theorem dX8_readPlan_133 : decode cX8_readPlan 133 = .ok (.getfield 12, 3) := by decide +kernel
theorem dX8_readPlan_136 : decode cX8_readPlan 136 = .ok (.invokevirtual 40, 3) := by decide +kernel
theorem dX8_readPlan_139 : decode cX8_readPlan 139 = .ok (.iinc 3 1, 3) := by decide +kernel
theorem dX8_readPlan_142 : decode cX8_readPlan 142 = .ok (.goto (-112), 3) := by decide +kernel
theorem dX8_readPlan_145 : decode cX8_readPlan 145 = .ok (.iconst 1, 1) := by decide +kernel
theorem dX8_readPlan_146 : decode cX8_readPlan 146 = .ok (.ireturn, 1) := by decide +kernel
abbrev j8_readPlan : xJ := (cX8_readPlan, 5, RX8, 7, 0, 0)
def F8_readPlan_b85 (z : Nat) (c_fault : Int32) (c_t_bytes : (Nat → Int32)) (c_t_kind : Int32) (c_t_from : Int32) (c_t_behind : Int32) (c_t_end : Int32) (c_s_fields : Int32) (c_s_many : (Nat → Int32)) (c_s_codes : (Nat → Nat → Int32)) (c_s_p_list : (Nat → Nat → Int32)) (c_s_p_weights : (Nat → Nat → Int32)) (c_s_p_drawn : (Nat → Nat → Int32)) (c_s_p_many : (Nat → Int32)) (c_s_p_all : (Nat → Int32)) (c_s_p_turns : (Nat → Int32)) : Option (Int32 × Int32 × Int32 × Int32 × Int32 × (Nat → Nat → Int32) × (Nat → Nat → Int32) × (Nat → Nat → Int32) × (Nat → Int32) × (Nat → Int32) × (Nat → Int32)) :=
  (F8_refuse (3 : Int32) c_fault c_t_from).bind (fun v87 => xg (xbo v87.1) (some (v87.1, v87.2, c_t_kind, c_t_from, c_t_behind, c_s_p_list, c_s_p_weights, c_s_p_drawn, c_s_p_many, c_s_p_all, c_s_p_turns)))
theorem T8_readPlan_b85 {X : xX} {c_t_many : Int32} {c_s_ties : Int32} {c_s_worth : (Nat → Int32)} {c_s_forces : (Nat → Int32)} {c_s_b_list : (Nat → Nat → Int32)} {c_s_b_many : (Nat → Int32)} {c_fault : Int32} {c_t_bytes : (Nat → Int32)} {c_t_kind : Int32} {c_t_from : Int32} {c_t_behind : Int32} {c_t_end : Int32} {c_s_fields : Int32} {c_s_many : (Nat → Int32)} {c_s_codes : (Nat → Nat → Int32)} {c_s_p_list : (Nat → Nat → Int32)} {c_s_p_weights : (Nat → Nat → Int32)} {c_s_p_drawn : (Nat → Nat → Int32)} {c_s_p_many : (Nat → Int32)} {c_s_p_all : (Nat → Int32)} {c_s_p_turns : (Nat → Int32)} {z : Nat} {v : Int32 × Int32 × Int32 × Int32 × Int32 × (Nat → Nat → Int32) × (Nat → Nat → Int32) × (Nat → Nat → Int32) × (Nat → Int32) × (Nat → Int32) × (Nat → Int32)} (hX : xIs (j8_readPlan) X ((some .boolean)) (some (.int v.1)) (hLr v.2.1 c_t_bytes c_t_many v.2.2.1 v.2.2.2.1 v.2.2.2.2.1 c_t_end c_s_fields c_s_ties c_s_worth c_s_forces c_s_many c_s_codes c_s_b_list c_s_b_many v.2.2.2.2.2.1 v.2.2.2.2.2.2.1 v.2.2.2.2.2.2.2.1 v.2.2.2.2.2.2.2.2.1 v.2.2.2.2.2.2.2.2.2.1 v.2.2.2.2.2.2.2.2.2.2)) (hf : F8_readPlan_b85 z c_fault c_t_bytes c_t_kind c_t_from c_t_behind c_t_end c_s_fields c_s_many c_s_codes c_s_p_list c_s_p_weights c_s_p_drawn c_s_p_many c_s_p_all c_s_p_turns = some v) : xV (j8_readPlan) X 0 0 (hLr c_fault c_t_bytes c_t_many c_t_kind c_t_from c_t_behind c_t_end c_s_fields c_s_ties c_s_worth c_s_forces c_s_many c_s_codes c_s_b_list c_s_b_many c_s_p_list c_s_p_weights c_s_p_drawn c_s_p_many c_s_p_all c_s_p_turns) 85 [(0, .ref 0)] [] := by
  unfold F8_readPlan_b85 at hf
  refine xV_aload_n 86 rfl dX8_readPlan_85 rfl 0 rfl ?_
  refine xV_iconst 87 rfl dX8_readPlan_86 xy_i3 ?_
  obtain ⟨v87, hv87, hf⟩ := xb_s hf
  refine xV_same (rest := []) 90 rfl dX8_readPlan_87 rfl (C8_refuse X.1.2.1 hv87) m8_refuse v8_refuse k8_43 rfl rfl rfl rfl rfl (Nat.le_of_ble_eq_true rfl) (Nat.le_of_ble_eq_true rfl) (Nat.le_of_ble_eq_true rfl) ⟨Nat.le_refl _, Nat.le_refl _⟩ ?_
  show xV (j8_readPlan) X 0 0 (hLr v87.2 c_t_bytes c_t_many c_t_kind c_t_from c_t_behind c_t_end c_s_fields c_s_ties c_s_worth c_s_forces c_s_many c_s_codes c_s_b_list c_s_b_many c_s_p_list c_s_p_weights c_s_p_drawn c_s_p_many c_s_p_all c_s_p_turns) 90 [(0, .ref 0)] [.int v87.1]
  obtain ⟨hgr, hf⟩ := xg_s hf
  obtain rfl := Option.some.inj hf
  exact xV_iret hX dX8_readPlan_90 (xbo_ok hgr) (Nat.zero_le _) (Nat.zero_le _)
def F8_readPlan_b97 (z : Nat) (c_fault : Int32) (c_t_bytes : (Nat → Int32)) (c_t_kind : Int32) (c_t_from : Int32) (c_t_behind : Int32) (c_t_end : Int32) (c_s_fields : Int32) (c_s_many : (Nat → Int32)) (c_s_codes : (Nat → Nat → Int32)) (c_s_p_list : (Nat → Nat → Int32)) (c_s_p_weights : (Nat → Nat → Int32)) (c_s_p_drawn : (Nat → Nat → Int32)) (c_s_p_many : (Nat → Int32)) (c_s_p_all : (Nat → Int32)) (c_s_p_turns : (Nat → Int32)) : Option (Int32 × Int32 × Int32 × Int32 × Int32 × (Nat → Nat → Int32) × (Nat → Nat → Int32) × (Nat → Nat → Int32) × (Nat → Int32) × (Nat → Int32) × (Nat → Int32)) :=
  (F8_refuse (4 : Int32) c_fault c_t_from).bind (fun v99 => xg (xbo v99.1) (some (v99.1, v99.2, c_t_kind, c_t_from, c_t_behind, c_s_p_list, c_s_p_weights, c_s_p_drawn, c_s_p_many, c_s_p_all, c_s_p_turns)))
theorem T8_readPlan_b97 {X : xX} {c_t_many : Int32} {c_s_ties : Int32} {c_s_worth : (Nat → Int32)} {c_s_forces : (Nat → Int32)} {c_s_b_list : (Nat → Nat → Int32)} {c_s_b_many : (Nat → Int32)} {c_fault : Int32} {c_t_bytes : (Nat → Int32)} {c_t_kind : Int32} {c_t_from : Int32} {c_t_behind : Int32} {c_t_end : Int32} {c_s_fields : Int32} {c_s_many : (Nat → Int32)} {c_s_codes : (Nat → Nat → Int32)} {c_s_p_list : (Nat → Nat → Int32)} {c_s_p_weights : (Nat → Nat → Int32)} {c_s_p_drawn : (Nat → Nat → Int32)} {c_s_p_many : (Nat → Int32)} {c_s_p_all : (Nat → Int32)} {c_s_p_turns : (Nat → Int32)} {z : Nat} {v : Int32 × Int32 × Int32 × Int32 × Int32 × (Nat → Nat → Int32) × (Nat → Nat → Int32) × (Nat → Nat → Int32) × (Nat → Int32) × (Nat → Int32) × (Nat → Int32)} (hX : xIs (j8_readPlan) X ((some .boolean)) (some (.int v.1)) (hLr v.2.1 c_t_bytes c_t_many v.2.2.1 v.2.2.2.1 v.2.2.2.2.1 c_t_end c_s_fields c_s_ties c_s_worth c_s_forces c_s_many c_s_codes c_s_b_list c_s_b_many v.2.2.2.2.2.1 v.2.2.2.2.2.2.1 v.2.2.2.2.2.2.2.1 v.2.2.2.2.2.2.2.2.1 v.2.2.2.2.2.2.2.2.2.1 v.2.2.2.2.2.2.2.2.2.2)) (hf : F8_readPlan_b97 z c_fault c_t_bytes c_t_kind c_t_from c_t_behind c_t_end c_s_fields c_s_many c_s_codes c_s_p_list c_s_p_weights c_s_p_drawn c_s_p_many c_s_p_all c_s_p_turns = some v) : xV (j8_readPlan) X 0 0 (hLr c_fault c_t_bytes c_t_many c_t_kind c_t_from c_t_behind c_t_end c_s_fields c_s_ties c_s_worth c_s_forces c_s_many c_s_codes c_s_b_list c_s_b_many c_s_p_list c_s_p_weights c_s_p_drawn c_s_p_many c_s_p_all c_s_p_turns) 97 [(0, .ref 0)] [] := by
  unfold F8_readPlan_b97 at hf
  refine xV_aload_n 98 rfl dX8_readPlan_97 rfl 0 rfl ?_
  refine xV_iconst 99 rfl dX8_readPlan_98 xy_i4 ?_
  obtain ⟨v99, hv99, hf⟩ := xb_s hf
  refine xV_same (rest := []) 102 rfl dX8_readPlan_99 rfl (C8_refuse X.1.2.1 hv99) m8_refuse v8_refuse k8_43 rfl rfl rfl rfl rfl (Nat.le_of_ble_eq_true rfl) (Nat.le_of_ble_eq_true rfl) (Nat.le_of_ble_eq_true rfl) ⟨Nat.le_refl _, Nat.le_refl _⟩ ?_
  show xV (j8_readPlan) X 0 0 (hLr v99.2 c_t_bytes c_t_many c_t_kind c_t_from c_t_behind c_t_end c_s_fields c_s_ties c_s_worth c_s_forces c_s_many c_s_codes c_s_b_list c_s_b_many c_s_p_list c_s_p_weights c_s_p_drawn c_s_p_many c_s_p_all c_s_p_turns) 102 [(0, .ref 0)] [.int v99.1]
  obtain ⟨hgr, hf⟩ := xg_s hf
  obtain rfl := Option.some.inj hf
  exact xV_iret hX dX8_readPlan_102 (xbo_ok hgr) (Nat.zero_le _) (Nat.zero_le _)
def F8_readPlan_b56 (z : Nat) (c_fault : Int32) (c_t_bytes : (Nat → Int32)) (c_t_kind : Int32) (c_t_from : Int32) (c_t_behind : Int32) (c_t_end : Int32) (c_s_fields : Int32) (c_s_many : (Nat → Int32)) (c_s_codes : (Nat → Nat → Int32)) (c_s_p_list : (Nat → Nat → Int32)) (c_s_p_weights : (Nat → Nat → Int32)) (c_s_p_drawn : (Nat → Nat → Int32)) (c_s_p_many : (Nat → Int32)) (c_s_p_all : (Nat → Int32)) (c_s_p_turns : (Nat → Int32)) : Option (Int32 × Int32 × Int32 × Int32 × Int32 × (Nat → Nat → Int32) × (Nat → Nat → Int32) × (Nat → Nat → Int32) × (Nat → Int32) × (Nat → Int32) × (Nat → Int32)) :=
  (F8_refuse (1 : Int32) c_fault c_t_from).bind (fun v58 => xg (xbo v58.1) (some (v58.1, v58.2, c_t_kind, c_t_from, c_t_behind, c_s_p_list, c_s_p_weights, c_s_p_drawn, c_s_p_many, c_s_p_all, c_s_p_turns)))
theorem T8_readPlan_b56 {X : xX} {c_t_many : Int32} {c_s_ties : Int32} {c_s_worth : (Nat → Int32)} {c_s_forces : (Nat → Int32)} {c_s_b_list : (Nat → Nat → Int32)} {c_s_b_many : (Nat → Int32)} {c_fault : Int32} {c_t_bytes : (Nat → Int32)} {c_t_kind : Int32} {c_t_from : Int32} {c_t_behind : Int32} {c_t_end : Int32} {c_s_fields : Int32} {c_s_many : (Nat → Int32)} {c_s_codes : (Nat → Nat → Int32)} {c_s_p_list : (Nat → Nat → Int32)} {c_s_p_weights : (Nat → Nat → Int32)} {c_s_p_drawn : (Nat → Nat → Int32)} {c_s_p_many : (Nat → Int32)} {c_s_p_all : (Nat → Int32)} {c_s_p_turns : (Nat → Int32)} {z : Nat} {v : Int32 × Int32 × Int32 × Int32 × Int32 × (Nat → Nat → Int32) × (Nat → Nat → Int32) × (Nat → Nat → Int32) × (Nat → Int32) × (Nat → Int32) × (Nat → Int32)} (hX : xIs (j8_readPlan) X ((some .boolean)) (some (.int v.1)) (hLr v.2.1 c_t_bytes c_t_many v.2.2.1 v.2.2.2.1 v.2.2.2.2.1 c_t_end c_s_fields c_s_ties c_s_worth c_s_forces c_s_many c_s_codes c_s_b_list c_s_b_many v.2.2.2.2.2.1 v.2.2.2.2.2.2.1 v.2.2.2.2.2.2.2.1 v.2.2.2.2.2.2.2.2.1 v.2.2.2.2.2.2.2.2.2.1 v.2.2.2.2.2.2.2.2.2.2)) (hf : F8_readPlan_b56 z c_fault c_t_bytes c_t_kind c_t_from c_t_behind c_t_end c_s_fields c_s_many c_s_codes c_s_p_list c_s_p_weights c_s_p_drawn c_s_p_many c_s_p_all c_s_p_turns = some v) : xV (j8_readPlan) X 0 0 (hLr c_fault c_t_bytes c_t_many c_t_kind c_t_from c_t_behind c_t_end c_s_fields c_s_ties c_s_worth c_s_forces c_s_many c_s_codes c_s_b_list c_s_b_many c_s_p_list c_s_p_weights c_s_p_drawn c_s_p_many c_s_p_all c_s_p_turns) 56 [(0, .ref 0)] [] := by
  unfold F8_readPlan_b56 at hf
  refine xV_aload_n 57 rfl dX8_readPlan_56 rfl 0 rfl ?_
  refine xV_iconst 58 rfl dX8_readPlan_57 xy_i1 ?_
  obtain ⟨v58, hv58, hf⟩ := xb_s hf
  refine xV_same (rest := []) 61 rfl dX8_readPlan_58 rfl (C8_refuse X.1.2.1 hv58) m8_refuse v8_refuse k8_43 rfl rfl rfl rfl rfl (Nat.le_of_ble_eq_true rfl) (Nat.le_of_ble_eq_true rfl) (Nat.le_of_ble_eq_true rfl) ⟨Nat.le_refl _, Nat.le_refl _⟩ ?_
  show xV (j8_readPlan) X 0 0 (hLr v58.2 c_t_bytes c_t_many c_t_kind c_t_from c_t_behind c_t_end c_s_fields c_s_ties c_s_worth c_s_forces c_s_many c_s_codes c_s_b_list c_s_b_many c_s_p_list c_s_p_weights c_s_p_drawn c_s_p_many c_s_p_all c_s_p_turns) 61 [(0, .ref 0)] [.int v58.1]
  obtain ⟨hgr, hf⟩ := xg_s hf
  obtain rfl := Option.some.inj hf
  exact xV_iret hX dX8_readPlan_61 (xbo_ok hgr) (Nat.zero_le _) (Nat.zero_le _)
def F8_readPlan_b45 (z : Nat) (x1 : Int32) (p2 : Nat) (x3 : Int32) (c_fault : Int32) (c_t_bytes : (Nat → Int32)) (c_t_kind : Int32) (c_t_from : Int32) (c_t_behind : Int32) (c_t_end : Int32) (c_s_fields : Int32) (c_s_many : (Nat → Int32)) (c_s_codes : (Nat → Nat → Int32)) (c_s_p_list : (Nat → Nat → Int32)) (c_s_p_weights : (Nat → Nat → Int32)) (c_s_p_drawn : (Nat → Nat → Int32)) (c_s_p_many : (Nat → Int32)) (c_s_p_all : (Nat → Int32)) (c_s_p_turns : (Nat → Int32)) (k30 : Int32 → Nat → Int32 → Int32 → (Nat → Int32) → Int32 → Int32 → Int32 → Int32 → Int32 → (Nat → Int32) → (Nat → Nat → Int32) → (Nat → Nat → Int32) → (Nat → Nat → Int32) → (Nat → Nat → Int32) → (Nat → Int32) → (Nat → Int32) → (Nat → Int32) → Option (Int32 × Int32 × Int32 × Int32 × Int32 × (Nat → Nat → Int32) × (Nat → Nat → Int32) × (Nat → Nat → Int32) × (Nat → Int32) × (Nat → Int32) × (Nat → Int32))) : Option (Int32 × Int32 × Int32 × Int32 × Int32 × (Nat → Nat → Int32) × (Nat → Nat → Int32) × (Nat → Nat → Int32) × (Nat → Int32) × (Nat → Int32) × (Nat → Int32)) :=
  xg (Nat.blt p2 2) (if c_t_kind = (2 : Int32) then ((F8_splitHere z x1 c_t_bytes c_t_from c_t_behind c_s_fields c_s_many c_s_codes).bind (fun v64 => if v64 = (-1 : Int32) then (F8_readPlan_b85 z c_fault c_t_bytes c_t_kind c_t_from c_t_behind c_t_end c_s_fields c_s_many c_s_codes c_s_p_list c_s_p_weights c_s_p_drawn c_s_p_many c_s_p_all c_s_p_turns) else ((F3_placeOf z v64 (c_s_p_list p2) (c_s_p_many p2)).bind (fun v78 => if v78 = (-1 : Int32) then (if x3 < (8 : Int32) then ((F7_step z c_t_bytes c_t_kind c_t_from c_t_behind c_t_end).bind (fun v107 => (F8_readWeight z c_fault c_t_bytes v107.1 v107.2.1 v107.2.2 c_t_end).bind (fun v111 => if v111.1 = 0 then (some ((0 : Int32), v111.2.1, v111.2.2.1, v111.2.2.2.1, v111.2.2.2.2, c_s_p_list, c_s_p_weights, c_s_p_drawn, c_s_p_many, c_s_p_all, c_s_p_turns)) else ((F7_amount z c_t_bytes v111.2.2.2.1 v111.2.2.2.2).bind (fun v126 => (F3_put v64 v126 (c_s_p_list p2) (c_s_p_weights p2) (c_s_p_many p2) (c_s_p_all p2)).bind (fun v129 => (F7_step z c_t_bytes v111.2.2.1 v111.2.2.2.1 v111.2.2.2.2 c_t_end).bind (fun v136 => k30 x1 p2 (x3 + (1 : Int32)) v111.2.1 c_t_bytes v136.1 v136.2.1 v136.2.2 c_t_end c_s_fields c_s_many c_s_codes (va_up c_s_p_list p2 v129.1) (va_up c_s_p_weights p2 v129.2.1) c_s_p_drawn (va_up c_s_p_many p2 v129.2.2.1) (va_up c_s_p_all p2 v129.2.2.2) c_s_p_turns))))))) else (F8_readPlan_b97 z c_fault c_t_bytes c_t_kind c_t_from c_t_behind c_t_end c_s_fields c_s_many c_s_codes c_s_p_list c_s_p_weights c_s_p_drawn c_s_p_many c_s_p_all c_s_p_turns)) else (F8_readPlan_b85 z c_fault c_t_bytes c_t_kind c_t_from c_t_behind c_t_end c_s_fields c_s_many c_s_codes c_s_p_list c_s_p_weights c_s_p_drawn c_s_p_many c_s_p_all c_s_p_turns))))) else (F8_readPlan_b56 z c_fault c_t_bytes c_t_kind c_t_from c_t_behind c_t_end c_s_fields c_s_many c_s_codes c_s_p_list c_s_p_weights c_s_p_drawn c_s_p_many c_s_p_all c_s_p_turns))
theorem T8_readPlan_b45 {X : xX} {c_t_many : Int32} {c_s_ties : Int32} {c_s_worth : (Nat → Int32)} {c_s_forces : (Nat → Int32)} {c_s_b_list : (Nat → Nat → Int32)} {c_s_b_many : (Nat → Int32)} {x1 : Int32} {p2 : Nat} {x3 : Int32} {c_fault : Int32} {c_t_bytes : (Nat → Int32)} {c_t_kind : Int32} {c_t_from : Int32} {c_t_behind : Int32} {c_t_end : Int32} {c_s_fields : Int32} {c_s_many : (Nat → Int32)} {c_s_codes : (Nat → Nat → Int32)} {c_s_p_list : (Nat → Nat → Int32)} {c_s_p_weights : (Nat → Nat → Int32)} {c_s_p_drawn : (Nat → Nat → Int32)} {c_s_p_many : (Nat → Int32)} {c_s_p_all : (Nat → Int32)} {c_s_p_turns : (Nat → Int32)} {z : Nat} {v : Int32 × Int32 × Int32 × Int32 × Int32 × (Nat → Nat → Int32) × (Nat → Nat → Int32) × (Nat → Nat → Int32) × (Nat → Int32) × (Nat → Int32) × (Nat → Int32)} {k30 : Int32 → Nat → Int32 → Int32 → (Nat → Int32) → Int32 → Int32 → Int32 → Int32 → Int32 → (Nat → Int32) → (Nat → Nat → Int32) → (Nat → Nat → Int32) → (Nat → Nat → Int32) → (Nat → Nat → Int32) → (Nat → Int32) → (Nat → Int32) → (Nat → Int32) → Option (Int32 × Int32 × Int32 × Int32 × Int32 × (Nat → Nat → Int32) × (Nat → Nat → Int32) × (Nat → Nat → Int32) × (Nat → Int32) × (Nat → Int32) × (Nat → Int32))} (hX : xIs (j8_readPlan) X ((some .boolean)) (some (.int v.1)) (hLr v.2.1 c_t_bytes c_t_many v.2.2.1 v.2.2.2.1 v.2.2.2.2.1 c_t_end c_s_fields c_s_ties c_s_worth c_s_forces c_s_many c_s_codes c_s_b_list c_s_b_many v.2.2.2.2.2.1 v.2.2.2.2.2.2.1 v.2.2.2.2.2.2.2.1 v.2.2.2.2.2.2.2.2.1 v.2.2.2.2.2.2.2.2.2.1 v.2.2.2.2.2.2.2.2.2.2)) (hk30 : ∀ {x1 : Int32} {p2 : Nat} {x3 : Int32} {c_fault : Int32} {c_t_kind : Int32} {c_t_from : Int32} {c_t_behind : Int32} {c_s_p_list : (Nat → Nat → Int32)} {c_s_p_weights : (Nat → Nat → Int32)} {c_s_p_drawn : (Nat → Nat → Int32)} {c_s_p_many : (Nat → Int32)} {c_s_p_all : (Nat → Int32)} {c_s_p_turns : (Nat → Int32)}, k30 x1 p2 x3 c_fault c_t_bytes c_t_kind c_t_from c_t_behind c_t_end c_s_fields c_s_many c_s_codes c_s_p_list c_s_p_weights c_s_p_drawn c_s_p_many c_s_p_all c_s_p_turns = some v → xV (j8_readPlan) X 0 0 (hLr c_fault c_t_bytes c_t_many c_t_kind c_t_from c_t_behind c_t_end c_s_fields c_s_ties c_s_worth c_s_forces c_s_many c_s_codes c_s_b_list c_s_b_many c_s_p_list c_s_p_weights c_s_p_drawn c_s_p_many c_s_p_all c_s_p_turns) 30 [(0, .ref 0), (1, .int x1), (2, .ref (16 + 4 * p2)), (3, .int x3)] []) (hf : F8_readPlan_b45 z x1 p2 x3 c_fault c_t_bytes c_t_kind c_t_from c_t_behind c_t_end c_s_fields c_s_many c_s_codes c_s_p_list c_s_p_weights c_s_p_drawn c_s_p_many c_s_p_all c_s_p_turns k30 = some v) : xV (j8_readPlan) X 0 0 (hLr c_fault c_t_bytes c_t_many c_t_kind c_t_from c_t_behind c_t_end c_s_fields c_s_ties c_s_worth c_s_forces c_s_many c_s_codes c_s_b_list c_s_b_many c_s_p_list c_s_p_weights c_s_p_drawn c_s_p_many c_s_p_all c_s_p_turns) 45 [(0, .ref 0), (1, .int x1), (2, .ref (16 + 4 * p2)), (3, .int x3)] [] := by
  unfold F8_readPlan_b45 at hf
  obtain ⟨hp2, hf⟩ := xg_s hf
  refine xV_aload_n 46 rfl dX8_readPlan_45 rfl 0 rfl ?_
  refine xV_get (v := .ref 1) 49 rfl dX8_readPlan_46 f8_12 rfl rfl ?_
  refine xV_get (v := .int c_t_kind) 52 rfl dX8_readPlan_49 f8_37 rfl rfl ?_
  refine xV_iconst 53 rfl dX8_readPlan_52 xy_i2 ?_
  refine xV_icmp_eq (tgt := 62) 56 rfl dX8_readPlan_53 (by decide) (fun h53 => ?_) (fun h53 => ?_)
  · have hf := xif_t hf h53
    refine xV_aload_n 63 rfl dX8_readPlan_62 rfl 0 rfl ?_
    refine xV_iload_n 64 rfl dX8_readPlan_63 rfl 1 rfl ?_
    obtain ⟨v64, hv64, hf⟩ := xb_s hf
    refine xV_same (rest := []) 67 rfl dX8_readPlan_64 rfl (C8_splitHere X.1.2.1 hv64) m8_splitHere v8_splitHere k8_123 rfl rfl rfl rfl rfl (Nat.le_of_ble_eq_true rfl) (Nat.le_of_ble_eq_true rfl) (Nat.le_of_ble_eq_true rfl) ⟨Nat.le_refl _, Nat.le_refl _⟩ ?_
    show xV (j8_readPlan) X 0 0 (hLr c_fault c_t_bytes c_t_many c_t_kind c_t_from c_t_behind c_t_end c_s_fields c_s_ties c_s_worth c_s_forces c_s_many c_s_codes c_s_b_list c_s_b_many c_s_p_list c_s_p_weights c_s_p_drawn c_s_p_many c_s_p_all c_s_p_turns) 67 [(0, .ref 0), (1, .int x1), (2, .ref (16 + 4 * p2)), (3, .int x3)] [.int v64]
    refine xV_istore (L' := [(4, .int v64), (0, .ref 0), (1, .int x1), (2, .ref (16 + 4 * p2)), (3, .int x3)]) 69 rfl dX8_readPlan_67 (xlt rfl) rfl ?_
    refine xV_iload 71 rfl dX8_readPlan_69 0 rfl ?_
    refine xV_iconst 72 rfl dX8_readPlan_71 xy_im1 ?_
    refine xV_icmp_eq (tgt := 85) 75 rfl dX8_readPlan_72 (by decide) (fun h72 => ?_) (fun h72 => ?_)
    · have hf := xif_t hf h72
      refine xV_sub [1] rfl ?_
      exact T8_readPlan_b85 hX hf
    · have hf := xif_f hf h72
      refine xV_aload_n 76 rfl dX8_readPlan_75 rfl 3 rfl ?_
      refine xV_iload 78 rfl dX8_readPlan_76 0 rfl ?_
      obtain ⟨v78, hv78, hf⟩ := xb_s hf
      refine xV_vir2 (g := (fun j => (16 + 4 * p2) + j)) (hl := (hP (c_s_p_list p2) (c_s_p_weights p2) (c_s_p_drawn p2) (c_s_p_many p2) (c_s_p_all p2) (c_s_p_turns p2))) (hl' := (hP (c_s_p_list p2) (c_s_p_weights p2) (c_s_p_drawn p2) (c_s_p_many p2) (c_s_p_all p2) (c_s_p_turns p2))) (h' := (hLr c_fault c_t_bytes c_t_many c_t_kind c_t_from c_t_behind c_t_end c_s_fields c_s_ties c_s_worth c_s_forces c_s_many c_s_codes c_s_b_list c_s_b_many c_s_p_list c_s_p_weights c_s_p_drawn c_s_p_many c_s_p_all c_s_p_turns)) (rest := []) (ci := 3) 81 rfl dX8_readPlan_78 rfl (C3_placeOf X.1.2.1 hv78) m3_placeOf v3_placeOf k8_141 rfl rfl rfl (e_Lr_P_F2 (xblt hp2) (xup_same _ _) (xup_same _ _) (xup_same _ _) (xup_same _ _) (xup_same _ _) (xup_same _ _)) rfl (Nat.le_of_ble_eq_true rfl) (Nat.le_of_ble_eq_true rfl) (Nat.le_of_ble_eq_true rfl) ⟨Nat.le_refl _, Nat.le_refl _⟩ ?_
      show xV (j8_readPlan) X 0 0 (hLr c_fault c_t_bytes c_t_many c_t_kind c_t_from c_t_behind c_t_end c_s_fields c_s_ties c_s_worth c_s_forces c_s_many c_s_codes c_s_b_list c_s_b_many c_s_p_list c_s_p_weights c_s_p_drawn c_s_p_many c_s_p_all c_s_p_turns) 81 [(4, .int v64), (0, .ref 0), (1, .int x1), (2, .ref (16 + 4 * p2)), (3, .int x3)] [.int v78]
      refine xV_iconst 82 rfl dX8_readPlan_81 xy_im1 ?_
      refine xV_icmp_eq (tgt := 91) 85 rfl dX8_readPlan_82 (by decide) (fun h82 => ?_) (fun h82 => ?_)
      · have hf := xif_t hf h82
        refine xV_iload_n 92 rfl dX8_readPlan_91 rfl 4 rfl ?_
        refine xV_bipush 94 rfl dX8_readPlan_92 xy_b8 ?_
        refine xV_icmp_lt (tgt := 103) 97 rfl dX8_readPlan_94 (by decide) (fun h94 => ?_) (fun h94 => ?_)
        · have hf := xif_t hf h94
          refine xV_aload_n 104 rfl dX8_readPlan_103 rfl 1 rfl ?_
          refine xV_get (v := .ref 1) 107 rfl dX8_readPlan_104 f8_12 rfl rfl ?_
          obtain ⟨v107, hv107, hf⟩ := xb_s hf
          refine xV_vir2 (g := (fun j => 1 + j)) (hl := (hT c_t_bytes c_t_many c_t_kind c_t_from c_t_behind c_t_end)) (hl' := (hT c_t_bytes c_t_many v107.1 v107.2.1 v107.2.2 c_t_end)) (h' := (hLr c_fault c_t_bytes c_t_many v107.1 v107.2.1 v107.2.2 c_t_end c_s_fields c_s_ties c_s_worth c_s_forces c_s_many c_s_codes c_s_b_list c_s_b_many c_s_p_list c_s_p_weights c_s_p_drawn c_s_p_many c_s_p_all c_s_p_turns)) (rest := []) (ci := 7) 110 rfl dX8_readPlan_107 rfl (C7_step X.1.2.1 hv107) m7_step v7_step k8_40 rfl rfl rfl (e_Lr_T_L1) rfl (Nat.le_of_ble_eq_true rfl) (Nat.le_of_ble_eq_true rfl) (Nat.le_of_ble_eq_true rfl) ⟨Nat.le_refl _, Nat.le_refl _⟩ ?_
          show xV (j8_readPlan) X 0 0 (hLr c_fault c_t_bytes c_t_many v107.1 v107.2.1 v107.2.2 c_t_end c_s_fields c_s_ties c_s_worth c_s_forces c_s_many c_s_codes c_s_b_list c_s_b_many c_s_p_list c_s_p_weights c_s_p_drawn c_s_p_many c_s_p_all c_s_p_turns) 110 [(4, .int v64), (0, .ref 0), (1, .int x1), (2, .ref (16 + 4 * p2)), (3, .int x3)] []
          refine xV_aload_n 111 rfl dX8_readPlan_110 rfl 1 rfl ?_
          obtain ⟨v111, hv111, hf⟩ := xb_s hf
          refine xV_same (rest := []) 114 rfl dX8_readPlan_111 rfl (C8_readWeight X.1.2.1 hv111) m8_readWeight v8_readWeight k8_144 rfl rfl rfl rfl rfl (Nat.le_of_ble_eq_true rfl) (Nat.le_of_ble_eq_true rfl) (Nat.le_of_ble_eq_true rfl) ⟨Nat.le_refl _, Nat.le_refl _⟩ ?_
          show xV (j8_readPlan) X 0 0 (hLr v111.2.1 c_t_bytes c_t_many v111.2.2.1 v111.2.2.2.1 v111.2.2.2.2 c_t_end c_s_fields c_s_ties c_s_worth c_s_forces c_s_many c_s_codes c_s_b_list c_s_b_many c_s_p_list c_s_p_weights c_s_p_drawn c_s_p_many c_s_p_all c_s_p_turns) 114 [(4, .int v64), (0, .ref 0), (1, .int x1), (2, .ref (16 + 4 * p2)), (3, .int x3)] [.int v111.1]
          refine xV_if_ne (tgt := 119) 117 rfl dX8_readPlan_114 (by decide) (fun h114 => ?_) (fun h114 => ?_)
          · have hf := xif_f hf h114
            refine xV_aload_n 120 rfl dX8_readPlan_119 rfl 3 rfl ?_
            refine xV_iload 122 rfl dX8_readPlan_120 0 rfl ?_
            refine xV_aload_n 123 rfl dX8_readPlan_122 rfl 1 rfl ?_
            refine xV_get (v := .ref 1) 126 rfl dX8_readPlan_123 f8_12 rfl rfl ?_
            obtain ⟨v126, hv126, hf⟩ := xb_s hf
            refine xV_vir2 (g := (fun j => 1 + j)) (hl := (hT c_t_bytes c_t_many v111.2.2.1 v111.2.2.2.1 v111.2.2.2.2 c_t_end)) (hl' := (hT c_t_bytes c_t_many v111.2.2.1 v111.2.2.2.1 v111.2.2.2.2 c_t_end)) (h' := (hLr v111.2.1 c_t_bytes c_t_many v111.2.2.1 v111.2.2.2.1 v111.2.2.2.2 c_t_end c_s_fields c_s_ties c_s_worth c_s_forces c_s_many c_s_codes c_s_b_list c_s_b_many c_s_p_list c_s_p_weights c_s_p_drawn c_s_p_many c_s_p_all c_s_p_turns)) (rest := [.int v64, .ref (16 + 4 * p2)]) (ci := 7) 129 rfl dX8_readPlan_126 rfl (C7_amount X.1.2.1 hv126) m7_amount v7_amount k8_79 rfl rfl rfl (e_Lr_T_L1) rfl (Nat.le_of_ble_eq_true rfl) (Nat.le_of_ble_eq_true rfl) (Nat.le_of_ble_eq_true rfl) ⟨Nat.le_refl _, Nat.le_refl _⟩ ?_
            show xV (j8_readPlan) X 0 0 (hLr v111.2.1 c_t_bytes c_t_many v111.2.2.1 v111.2.2.2.1 v111.2.2.2.2 c_t_end c_s_fields c_s_ties c_s_worth c_s_forces c_s_many c_s_codes c_s_b_list c_s_b_many c_s_p_list c_s_p_weights c_s_p_drawn c_s_p_many c_s_p_all c_s_p_turns) 129 [(4, .int v64), (0, .ref 0), (1, .int x1), (2, .ref (16 + 4 * p2)), (3, .int x3)] [.int v126, .int v64, .ref (16 + 4 * p2)]
            obtain ⟨v129, hv129, hf⟩ := xb_s hf
            refine xV_vir2 (g := (fun j => (16 + 4 * p2) + j)) (hl := (hP (c_s_p_list p2) (c_s_p_weights p2) (c_s_p_drawn p2) (c_s_p_many p2) (c_s_p_all p2) (c_s_p_turns p2))) (hl' := (hP v129.1 v129.2.1 (c_s_p_drawn p2) v129.2.2.1 v129.2.2.2 (c_s_p_turns p2))) (h' := (hLr v111.2.1 c_t_bytes c_t_many v111.2.2.1 v111.2.2.2.1 v111.2.2.2.2 c_t_end c_s_fields c_s_ties c_s_worth c_s_forces c_s_many c_s_codes c_s_b_list c_s_b_many (va_up c_s_p_list p2 v129.1) (va_up c_s_p_weights p2 v129.2.1) c_s_p_drawn (va_up c_s_p_many p2 v129.2.2.1) (va_up c_s_p_all p2 v129.2.2.2) c_s_p_turns)) (rest := []) (ci := 3) 132 rfl dX8_readPlan_129 rfl (C3_put X.1.2.1 hv129) m3_put v3_put k8_147 rfl rfl rfl (e_Lr_P_F2 (xblt hp2) rfl rfl (xup_same _ _) rfl rfl (xup_same _ _)) rfl (Nat.le_of_ble_eq_true rfl) (Nat.le_of_ble_eq_true rfl) (Nat.le_of_ble_eq_true rfl) ⟨Nat.le_refl _, Nat.le_refl _⟩ ?_
            show xV (j8_readPlan) X 0 0 (hLr v111.2.1 c_t_bytes c_t_many v111.2.2.1 v111.2.2.2.1 v111.2.2.2.2 c_t_end c_s_fields c_s_ties c_s_worth c_s_forces c_s_many c_s_codes c_s_b_list c_s_b_many (va_up c_s_p_list p2 v129.1) (va_up c_s_p_weights p2 v129.2.1) c_s_p_drawn (va_up c_s_p_many p2 v129.2.2.1) (va_up c_s_p_all p2 v129.2.2.2) c_s_p_turns) 132 [(4, .int v64), (0, .ref 0), (1, .int x1), (2, .ref (16 + 4 * p2)), (3, .int x3)] []
            refine xV_aload_n 133 rfl dX8_readPlan_132 rfl 1 rfl ?_
            refine xV_get (v := .ref 1) 136 rfl dX8_readPlan_133 f8_12 rfl rfl ?_
            obtain ⟨v136, hv136, hf⟩ := xb_s hf
            refine xV_vir2 (g := (fun j => 1 + j)) (hl := (hT c_t_bytes c_t_many v111.2.2.1 v111.2.2.2.1 v111.2.2.2.2 c_t_end)) (hl' := (hT c_t_bytes c_t_many v136.1 v136.2.1 v136.2.2 c_t_end)) (h' := (hLr v111.2.1 c_t_bytes c_t_many v136.1 v136.2.1 v136.2.2 c_t_end c_s_fields c_s_ties c_s_worth c_s_forces c_s_many c_s_codes c_s_b_list c_s_b_many (va_up c_s_p_list p2 v129.1) (va_up c_s_p_weights p2 v129.2.1) c_s_p_drawn (va_up c_s_p_many p2 v129.2.2.1) (va_up c_s_p_all p2 v129.2.2.2) c_s_p_turns)) (rest := []) (ci := 7) 139 rfl dX8_readPlan_136 rfl (C7_step X.1.2.1 hv136) m7_step v7_step k8_40 rfl rfl rfl (e_Lr_T_L1) rfl (Nat.le_of_ble_eq_true rfl) (Nat.le_of_ble_eq_true rfl) (Nat.le_of_ble_eq_true rfl) ⟨Nat.le_refl _, Nat.le_refl _⟩ ?_
            show xV (j8_readPlan) X 0 0 (hLr v111.2.1 c_t_bytes c_t_many v136.1 v136.2.1 v136.2.2 c_t_end c_s_fields c_s_ties c_s_worth c_s_forces c_s_many c_s_codes c_s_b_list c_s_b_many (va_up c_s_p_list p2 v129.1) (va_up c_s_p_weights p2 v129.2.1) c_s_p_drawn (va_up c_s_p_many p2 v129.2.2.1) (va_up c_s_p_all p2 v129.2.2.2) c_s_p_turns) 139 [(4, .int v64), (0, .ref 0), (1, .int x1), (2, .ref (16 + 4 * p2)), (3, .int x3)] []
            refine xV_iinc (L' := [(3, .int (x3 + (1 : Int32))), (4, .int v64), (0, .ref 0), (1, .int x1), (2, .ref (16 + 4 * p2))]) 142 rfl dX8_readPlan_139 4 rfl (xk_inc xy_i1) (xlt rfl) rfl ?_
            refine xV_goto (tgt := 30) dX8_readPlan_142 (by decide) ?_
            refine xV_sub [2, 3, 4, 0] rfl ?_
            exact hk30 hf
          · have hf := xif_t hf h114
            refine xV_iconst 118 rfl dX8_readPlan_117 xy_i0 ?_
            obtain rfl := Option.some.inj hf
            exact xV_iret hX dX8_readPlan_118 (xbo_ok rfl) (Nat.zero_le _) (Nat.zero_le _)
        · have hf := xif_f hf h94
          refine xV_sub [1] rfl ?_
          exact T8_readPlan_b97 hX hf
      · have hf := xif_f hf h82
        refine xV_sub [1] rfl ?_
        exact T8_readPlan_b85 hX hf
  · have hf := xif_f hf h53
    refine xV_sub [0] rfl ?_
    exact T8_readPlan_b56 hX hf
def F8_readPlan_b30 (z : Nat) (w : Nat) (x1 : Int32) (p2 : Nat) (x3 : Int32) (c_fault : Int32) (c_t_bytes : (Nat → Int32)) (c_t_kind : Int32) (c_t_from : Int32) (c_t_behind : Int32) (c_t_end : Int32) (c_s_fields : Int32) (c_s_many : (Nat → Int32)) (c_s_codes : (Nat → Nat → Int32)) (c_s_p_list : (Nat → Nat → Int32)) (c_s_p_weights : (Nat → Nat → Int32)) (c_s_p_drawn : (Nat → Nat → Int32)) (c_s_p_many : (Nat → Int32)) (c_s_p_all : (Nat → Int32)) (c_s_p_turns : (Nat → Int32)) : Option (Int32 × Int32 × Int32 × Int32 × Int32 × (Nat → Nat → Int32) × (Nat → Nat → Int32) × (Nat → Nat → Int32) × (Nat → Int32) × (Nat → Int32) × (Nat → Int32)) := match w with
  | 0 => none
  | w + 1 => xg (Nat.blt p2 2) (if x3 = 0 then (F8_readPlan_b45 z x1 p2 x3 c_fault c_t_bytes c_t_kind c_t_from c_t_behind c_t_end c_s_fields c_s_many c_s_codes c_s_p_list c_s_p_weights c_s_p_drawn c_s_p_many c_s_p_all c_s_p_turns (fun q0 q1 q2 q3 q4 q5 q6 q7 q8 q9 q10 q11 q12 q13 q14 q15 q16 q17 => F8_readPlan_b30 z w q0 q1 q2 q3 q4 q5 q6 q7 q8 q9 q10 q11 q12 q13 q14 q15 q16 q17)) else (if c_t_kind = (2 : Int32) then (F8_readPlan_b45 z x1 p2 x3 c_fault c_t_bytes c_t_kind c_t_from c_t_behind c_t_end c_s_fields c_s_many c_s_codes c_s_p_list c_s_p_weights c_s_p_drawn c_s_p_many c_s_p_all c_s_p_turns (fun q0 q1 q2 q3 q4 q5 q6 q7 q8 q9 q10 q11 q12 q13 q14 q15 q16 q17 => F8_readPlan_b30 z w q0 q1 q2 q3 q4 q5 q6 q7 q8 q9 q10 q11 q12 q13 q14 q15 q16 q17)) else (some ((1 : Int32), c_fault, c_t_kind, c_t_from, c_t_behind, c_s_p_list, c_s_p_weights, c_s_p_drawn, c_s_p_many, c_s_p_all, c_s_p_turns))))
theorem T8_readPlan_b30 {X : xX} {c_t_bytes : (Nat → Int32)} {c_t_many : Int32} {c_t_end : Int32} {c_s_fields : Int32} {c_s_ties : Int32} {c_s_worth : (Nat → Int32)} {c_s_forces : (Nat → Int32)} {c_s_many : (Nat → Int32)} {c_s_codes : (Nat → Nat → Int32)} {c_s_b_list : (Nat → Nat → Int32)} {c_s_b_many : (Nat → Int32)} {z : Nat} {v : Int32 × Int32 × Int32 × Int32 × Int32 × (Nat → Nat → Int32) × (Nat → Nat → Int32) × (Nat → Nat → Int32) × (Nat → Int32) × (Nat → Int32) × (Nat → Int32)} (hX : xIs (j8_readPlan) X ((some .boolean)) (some (.int v.1)) (hLr v.2.1 c_t_bytes c_t_many v.2.2.1 v.2.2.2.1 v.2.2.2.2.1 c_t_end c_s_fields c_s_ties c_s_worth c_s_forces c_s_many c_s_codes c_s_b_list c_s_b_many v.2.2.2.2.2.1 v.2.2.2.2.2.2.1 v.2.2.2.2.2.2.2.1 v.2.2.2.2.2.2.2.2.1 v.2.2.2.2.2.2.2.2.2.1 v.2.2.2.2.2.2.2.2.2.2)) : ∀ (w : Nat) {x1 : Int32} {p2 : Nat} {x3 : Int32} {c_fault : Int32} {c_t_kind : Int32} {c_t_from : Int32} {c_t_behind : Int32} {c_s_p_list : (Nat → Nat → Int32)} {c_s_p_weights : (Nat → Nat → Int32)} {c_s_p_drawn : (Nat → Nat → Int32)} {c_s_p_many : (Nat → Int32)} {c_s_p_all : (Nat → Int32)} {c_s_p_turns : (Nat → Int32)}, F8_readPlan_b30 z w x1 p2 x3 c_fault c_t_bytes c_t_kind c_t_from c_t_behind c_t_end c_s_fields c_s_many c_s_codes c_s_p_list c_s_p_weights c_s_p_drawn c_s_p_many c_s_p_all c_s_p_turns = some v → xV (j8_readPlan) X 0 0 (hLr c_fault c_t_bytes c_t_many c_t_kind c_t_from c_t_behind c_t_end c_s_fields c_s_ties c_s_worth c_s_forces c_s_many c_s_codes c_s_b_list c_s_b_many c_s_p_list c_s_p_weights c_s_p_drawn c_s_p_many c_s_p_all c_s_p_turns) 30 [(0, .ref 0), (1, .int x1), (2, .ref (16 + 4 * p2)), (3, .int x3)] [] := by
  intro w
  induction w with
  | zero => intro x1 p2 x3 c_fault c_t_kind c_t_from c_t_behind c_s_p_list c_s_p_weights c_s_p_drawn c_s_p_many c_s_p_all c_s_p_turns hf; cases hf
  | succ w ih =>
    intro x1 p2 x3 c_fault c_t_kind c_t_from c_t_behind c_s_p_list c_s_p_weights c_s_p_drawn c_s_p_many c_s_p_all c_s_p_turns hf
    unfold F8_readPlan_b30 at hf
    obtain ⟨hp2, hf⟩ := xg_s hf
    refine xV_iload_n 31 rfl dX8_readPlan_30 rfl 3 rfl ?_
    refine xV_if_eq (tgt := 45) 34 rfl dX8_readPlan_31 (by decide) (fun h31 => ?_) (fun h31 => ?_)
    · have hf := xif_t hf h31
      exact T8_readPlan_b45 hX (fun {_ _ _ _ _ _ _ _ _ _ _ _ _} hq => ih hq) hf
    · have hf := xif_f hf h31
      refine xV_aload_n 35 rfl dX8_readPlan_34 rfl 0 rfl ?_
      refine xV_get (v := .ref 1) 38 rfl dX8_readPlan_35 f8_12 rfl rfl ?_
      refine xV_get (v := .int c_t_kind) 41 rfl dX8_readPlan_38 f8_37 rfl rfl ?_
      refine xV_iconst 42 rfl dX8_readPlan_41 xy_i2 ?_
      refine xV_icmp_ne (tgt := 145) 45 rfl dX8_readPlan_42 (by decide) (fun h42 => ?_) (fun h42 => ?_)
      · have hf := xif_f hf h42
        refine xV_iconst 146 rfl dX8_readPlan_145 xy_i1 ?_
        obtain rfl := Option.some.inj hf
        exact xV_iret hX dX8_readPlan_146 (xbo_ok rfl) (Nat.zero_le _) (Nat.zero_le _)
      · have hf := xif_t hf h42
        exact T8_readPlan_b45 hX (fun {_ _ _ _ _ _ _ _ _ _ _ _ _} hq => ih hq) hf
def F8_readPlan (z : Nat) (c_fault : Int32) (c_t_bytes : (Nat → Int32)) (c_t_kind : Int32) (c_t_from : Int32) (c_t_behind : Int32) (c_t_end : Int32) (c_s_fields : Int32) (c_s_many : (Nat → Int32)) (c_s_codes : (Nat → Nat → Int32)) (c_s_p_list : (Nat → Nat → Int32)) (c_s_p_weights : (Nat → Nat → Int32)) (c_s_p_drawn : (Nat → Nat → Int32)) (c_s_p_many : (Nat → Int32)) (c_s_p_all : (Nat → Int32)) (c_s_p_turns : (Nat → Int32)) : Option (Int32 × Int32 × Int32 × Int32 × Int32 × (Nat → Nat → Int32) × (Nat → Nat → Int32) × (Nat → Nat → Int32) × (Nat → Int32) × (Nat → Int32) × (Nat → Int32)) :=
  (F8_readSide z c_fault c_t_bytes c_t_kind c_t_from c_t_behind c_t_end).bind (fun v1 => (F9_isSide v1.1).bind (fun v6 => if v6 = 0 then (some ((0 : Int32), v1.2.1, v1.2.2.1, v1.2.2.2.1, v1.2.2.2.2, c_s_p_list, c_s_p_weights, c_s_p_drawn, c_s_p_many, c_s_p_all, c_s_p_turns)) else (xg (xin v1.1 2) ((F3_clear z (c_s_p_drawn (xn v1.1)) (c_s_p_many (xn v1.1)) (c_s_p_all (xn v1.1)) (c_s_p_turns (xn v1.1))).bind (fun v25 => F8_readPlan_b30 z z v1.1 (xn v1.1) (0 : Int32) v1.2.1 c_t_bytes v1.2.2.1 v1.2.2.2.1 v1.2.2.2.2 c_t_end c_s_fields c_s_many c_s_codes c_s_p_list c_s_p_weights (va_up c_s_p_drawn (xn v1.1) v25.1) (va_up c_s_p_many (xn v1.1) v25.2.1) (va_up c_s_p_all (xn v1.1) v25.2.2.1) (va_up c_s_p_turns (xn v1.1) v25.2.2.2))))))
theorem T8_readPlan {X : xX} {z : Nat} {c_fault : Int32} {c_t_bytes : (Nat → Int32)} {c_t_kind : Int32} {c_t_from : Int32} {c_t_behind : Int32} {c_t_end : Int32} {c_s_fields : Int32} {c_s_many : (Nat → Int32)} {c_s_codes : (Nat → Nat → Int32)} {c_s_p_list : (Nat → Nat → Int32)} {c_s_p_weights : (Nat → Nat → Int32)} {c_s_p_drawn : (Nat → Nat → Int32)} {c_s_p_many : (Nat → Int32)} {c_s_p_all : (Nat → Int32)} {c_s_p_turns : (Nat → Int32)} {c_t_many : Int32} {c_s_ties : Int32} {c_s_worth : (Nat → Int32)} {c_s_forces : (Nat → Int32)} {c_s_b_list : (Nat → Nat → Int32)} {c_s_b_many : (Nat → Int32)} {v : Int32 × Int32 × Int32 × Int32 × Int32 × (Nat → Nat → Int32) × (Nat → Nat → Int32) × (Nat → Nat → Int32) × (Nat → Int32) × (Nat → Int32) × (Nat → Int32)} (hX : xIs (j8_readPlan) X ((some .boolean)) (some (.int v.1)) (hLr v.2.1 c_t_bytes c_t_many v.2.2.1 v.2.2.2.1 v.2.2.2.2.1 c_t_end c_s_fields c_s_ties c_s_worth c_s_forces c_s_many c_s_codes c_s_b_list c_s_b_many v.2.2.2.2.2.1 v.2.2.2.2.2.2.1 v.2.2.2.2.2.2.2.1 v.2.2.2.2.2.2.2.2.1 v.2.2.2.2.2.2.2.2.2.1 v.2.2.2.2.2.2.2.2.2.2)) (hf : F8_readPlan z c_fault c_t_bytes c_t_kind c_t_from c_t_behind c_t_end c_s_fields c_s_many c_s_codes c_s_p_list c_s_p_weights c_s_p_drawn c_s_p_many c_s_p_all c_s_p_turns = some v) : xV (j8_readPlan) X 0 0 (hLr c_fault c_t_bytes c_t_many c_t_kind c_t_from c_t_behind c_t_end c_s_fields c_s_ties c_s_worth c_s_forces c_s_many c_s_codes c_s_b_list c_s_b_many c_s_p_list c_s_p_weights c_s_p_drawn c_s_p_many c_s_p_all c_s_p_turns) 0 [(0, .ref 0)] [] := by
  unfold F8_readPlan at hf
  refine xV_aload_n 1 rfl dX8_readPlan_0 rfl 0 rfl ?_
  obtain ⟨v1, hv1, hf⟩ := xb_s hf
  refine xV_same (rest := []) 4 rfl dX8_readPlan_1 rfl (C8_readSide X.1.2.1 hv1) m8_readSide v8_readSide k8_108 rfl rfl rfl rfl rfl (Nat.le_of_ble_eq_true rfl) (Nat.le_of_ble_eq_true rfl) (Nat.le_of_ble_eq_true rfl) ⟨Nat.le_refl _, Nat.le_refl _⟩ ?_
  show xV (j8_readPlan) X 0 0 (hLr v1.2.1 c_t_bytes c_t_many v1.2.2.1 v1.2.2.2.1 v1.2.2.2.2 c_t_end c_s_fields c_s_ties c_s_worth c_s_forces c_s_many c_s_codes c_s_b_list c_s_b_many c_s_p_list c_s_p_weights c_s_p_drawn c_s_p_many c_s_p_all c_s_p_turns) 4 [(0, .ref 0)] [.int v1.1]
  refine xV_istore_n (L' := [(1, .int v1.1), (0, .ref 0)]) 5 rfl dX8_readPlan_4 rfl (xlt rfl) rfl ?_
  refine xV_iload_n 6 rfl dX8_readPlan_5 rfl 0 rfl ?_
  obtain ⟨v6, hv6, hf⟩ := xb_s hf
  refine xV_stN (rest := []) 9 rfl dX8_readPlan_6 rfl (C9_isSide X.1.2.1 hv6) m9_isSide s9_isSide kn8_111 rfl (Nat.le_of_ble_eq_true rfl) (Nat.le_of_ble_eq_true rfl) (Nat.le_of_ble_eq_true rfl) ⟨Nat.le_refl _, Nat.le_refl _⟩ ?_
  show xV (j8_readPlan) X 0 0 (hLr v1.2.1 c_t_bytes c_t_many v1.2.2.1 v1.2.2.2.1 v1.2.2.2.2 c_t_end c_s_fields c_s_ties c_s_worth c_s_forces c_s_many c_s_codes c_s_b_list c_s_b_many c_s_p_list c_s_p_weights c_s_p_drawn c_s_p_many c_s_p_all c_s_p_turns) 9 [(1, .int v1.1), (0, .ref 0)] [.int v6]
  refine xV_if_ne (tgt := 14) 12 rfl dX8_readPlan_9 (by decide) (fun h9 => ?_) (fun h9 => ?_)
  · have hf := xif_f hf h9
    refine xV_aload_n 15 rfl dX8_readPlan_14 rfl 1 rfl ?_
    refine xV_get (v := .ref 3) 18 rfl dX8_readPlan_15 f8_21 rfl rfl ?_
    refine xV_get (v := .ref 15) 21 rfl dX8_readPlan_18 f8_132 rfl rfl ?_
    refine xV_iload_n 22 rfl dX8_readPlan_21 rfl 0 rfl ?_
    obtain ⟨hg22, hf⟩ := xg_s hf
    refine xV_aaload (b := (16 + 4 * (xn v1.1))) 23 rfl dX8_readPlan_22 rfl rfl rfl (xin_ok hg22) (by show ([16, 20] : List Nat)[(xn v1.1)]? = some (16 + 4 * (xn v1.1)); have hi := xin_lt hg22; generalize (xn v1.1) = i at hi ⊢; match i, hi with | 0, _ => rfl | 1, _ => rfl) ?_
    refine xV_astore_n (L' := [(2, .ref (16 + 4 * (xn v1.1))), (1, .int v1.1), (0, .ref 0)]) 24 rfl dX8_readPlan_23 rfl (xlt rfl) rfl ?_
    refine xV_aload_n 25 rfl dX8_readPlan_24 rfl 0 rfl ?_
    obtain ⟨v25, hv25, hf⟩ := xb_s hf
    refine xV_vir2 (g := (fun j => (16 + 4 * (xn v1.1)) + j)) (hl := (hP (c_s_p_list (xn v1.1)) (c_s_p_weights (xn v1.1)) (c_s_p_drawn (xn v1.1)) (c_s_p_many (xn v1.1)) (c_s_p_all (xn v1.1)) (c_s_p_turns (xn v1.1)))) (hl' := (hP (c_s_p_list (xn v1.1)) (c_s_p_weights (xn v1.1)) v25.1 v25.2.1 v25.2.2.1 v25.2.2.2)) (h' := (hLr v1.2.1 c_t_bytes c_t_many v1.2.2.1 v1.2.2.2.1 v1.2.2.2.2 c_t_end c_s_fields c_s_ties c_s_worth c_s_forces c_s_many c_s_codes c_s_b_list c_s_b_many c_s_p_list c_s_p_weights (va_up c_s_p_drawn (xn v1.1) v25.1) (va_up c_s_p_many (xn v1.1) v25.2.1) (va_up c_s_p_all (xn v1.1) v25.2.2.1) (va_up c_s_p_turns (xn v1.1) v25.2.2.2))) (rest := []) (ci := 3) 28 rfl dX8_readPlan_25 rfl (C3_clear X.1.2.1 hv25) m3_clear v3_clear k8_136 rfl rfl rfl (e_Lr_P_F2 (xin_lt hg22) (xup_same _ _) (xup_same _ _) rfl rfl rfl rfl) rfl (Nat.le_of_ble_eq_true rfl) (Nat.le_of_ble_eq_true rfl) (Nat.le_of_ble_eq_true rfl) ⟨Nat.le_refl _, Nat.le_refl _⟩ ?_
    show xV (j8_readPlan) X 0 0 (hLr v1.2.1 c_t_bytes c_t_many v1.2.2.1 v1.2.2.2.1 v1.2.2.2.2 c_t_end c_s_fields c_s_ties c_s_worth c_s_forces c_s_many c_s_codes c_s_b_list c_s_b_many c_s_p_list c_s_p_weights (va_up c_s_p_drawn (xn v1.1) v25.1) (va_up c_s_p_many (xn v1.1) v25.2.1) (va_up c_s_p_all (xn v1.1) v25.2.2.1) (va_up c_s_p_turns (xn v1.1) v25.2.2.2)) 28 [(2, .ref (16 + 4 * (xn v1.1))), (1, .int v1.1), (0, .ref 0)] []
    refine xV_iconst 29 rfl dX8_readPlan_28 xy_i0 ?_
    refine xV_istore_n (L' := [(3, .int (0 : Int32)), (2, .ref (16 + 4 * (xn v1.1))), (1, .int v1.1), (0, .ref 0)]) 30 rfl dX8_readPlan_29 rfl (xlt rfl) rfl ?_
    refine xV_sub [3, 2, 1, 0] rfl ?_
    exact T8_readPlan_b30 hX _ hf
  · have hf := xif_t hf h9
    refine xV_iconst 13 rfl dX8_readPlan_12 xy_i0 ?_
    obtain rfl := Option.some.inj hf
    exact xV_iret hX dX8_readPlan_13 (xbo_ok rfl) (Nat.zero_le _) (Nat.zero_le _)
theorem C8_readPlan (l : Launch) {z : Nat} {c_fault : Int32} {c_t_bytes : (Nat → Int32)} {c_t_kind : Int32} {c_t_from : Int32} {c_t_behind : Int32} {c_t_end : Int32} {c_s_fields : Int32} {c_s_many : (Nat → Int32)} {c_s_codes : (Nat → Nat → Int32)} {c_s_p_list : (Nat → Nat → Int32)} {c_s_p_weights : (Nat → Nat → Int32)} {c_s_p_drawn : (Nat → Nat → Int32)} {c_s_p_many : (Nat → Int32)} {c_s_p_all : (Nat → Int32)} {c_s_p_turns : (Nat → Int32)} {c_t_many : Int32} {c_s_ties : Int32} {c_s_worth : (Nat → Int32)} {c_s_forces : (Nat → Int32)} {c_s_b_list : (Nat → Nat → Int32)} {c_s_b_many : (Nat → Int32)} {v : Int32 × Int32 × Int32 × Int32 × Int32 × (Nat → Nat → Int32) × (Nat → Nat → Int32) × (Nat → Nat → Int32) × (Nat → Int32) × (Nat → Int32) × (Nat → Int32)} (hf : F8_readPlan z c_fault c_t_bytes c_t_kind c_t_from c_t_behind c_t_end c_s_fields c_s_many c_s_codes c_s_p_list c_s_p_weights c_s_p_drawn c_s_p_many c_s_p_all c_s_p_turns = some v) : xCt l yX8_readPlan ((some .boolean)) j8_readPlan [.ref 0] (hLr c_fault c_t_bytes c_t_many c_t_kind c_t_from c_t_behind c_t_end c_s_fields c_s_ties c_s_worth c_s_forces c_s_many c_s_codes c_s_b_list c_s_b_many c_s_p_list c_s_p_weights c_s_p_drawn c_s_p_many c_s_p_all c_s_p_turns) (some (.int v.1)) (hLr v.2.1 c_t_bytes c_t_many v.2.2.1 v.2.2.2.1 v.2.2.2.2.1 c_t_end c_s_fields c_s_ties c_s_worth c_s_forces c_s_many c_s_codes c_s_b_list c_s_b_many v.2.2.2.2.2.1 v.2.2.2.2.2.2.1 v.2.2.2.2.2.2.2.1 v.2.2.2.2.2.2.2.2.1 v.2.2.2.2.2.2.2.2.2.1 v.2.2.2.2.2.2.2.2.2.2) := xCt_of (by decide) rfl (Nat.le_of_ble_eq_true rfl) (fun _ hX => T8_readPlan hX hf)
theorem m8_readPlan : xMd yX8_readPlan RX8 ((some .boolean)) j8_readPlan 0 := ⟨List.mem_of_getElem? (i := 380) (by decide +kernel), List.mem_of_getElem? (i := 19) (by decide +kernel), rfl, by decide +kernel⟩
theorem v8_readPlan : xMv yX8_readPlan RX8 := ⟨List.mem_of_getElem? (i := 378) (by decide +kernel), List.mem_of_getElem? (i := 379) (by decide +kernel)⟩
theorem k8_56 : Cond.methodLink RX8 56 yX8_readFields ∈ wsL_law0 := List.mem_of_getElem? (i := 302) (by decide +kernel)
theorem k8_61 : Cond.methodLink RX8 61 yX8_readForces ∈ wsL_law0 := List.mem_of_getElem? (i := 335) (by decide +kernel)
theorem k8_66 : Cond.methodLink RX8 66 yX8_readTies ∈ wsL_law0 := List.mem_of_getElem? (i := 340) (by decide +kernel)
theorem k8_71 : Cond.methodLink RX8 71 yX8_readBook ∈ wsL_law0 := List.mem_of_getElem? (i := 345) (by decide +kernel)
theorem k8_76 : Cond.methodLink RX8 76 yX8_readPlan ∈ wsL_law0 := List.mem_of_getElem? (i := 377) (by decide +kernel)
theorem dX8_readLine_0 : decode cX8_readLine 0 = .ok (.aload_n 0, 1) := by decide +kernel
theorem dX8_readLine_1 : decode cX8_readLine 1 = .ok (.getfield 12, 3) := by decide +kernel
theorem dX8_readLine_4 : decode cX8_readLine 4 = .ok (.ldc 50, 2) := by decide +kernel
theorem dX8_readLine_6 : decode cX8_readLine 6 = .ok (.invokevirtual 52, 3) := by decide +kernel
theorem dX8_readLine_9 : decode cX8_readLine 9 = .ok (.ifCond .eq 8, 3) := by decide +kernel
theorem dX8_readLine_12 : decode cX8_readLine 12 = .ok (.aload_n 0, 1) := by decide +kernel
theorem dX8_readLine_13 : decode cX8_readLine 13 = .ok (.invokevirtual 56, 3) := by decide +kernel
theorem dX8_readLine_16 : decode cX8_readLine 16 = .ok (.ireturn, 1) := by decide +kernel
theorem dX8_readLine_17 : decode cX8_readLine 17 = .ok (.aload_n 0, 1) := by decide +kernel
theorem dX8_readLine_18 : decode cX8_readLine 18 = .ok (.getfield 12, 3) := by decide +kernel
theorem dX8_readLine_21 : decode cX8_readLine 21 = .ok (.ldc 59, 2) := by decide +kernel
theorem dX8_readLine_23 : decode cX8_readLine 23 = .ok (.invokevirtual 52, 3) := by decide +kernel
theorem dX8_readLine_26 : decode cX8_readLine 26 = .ok (.ifCond .eq 8, 3) := by decide +kernel
theorem dX8_readLine_29 : decode cX8_readLine 29 = .ok (.aload_n 0, 1) := by decide +kernel
theorem dX8_readLine_30 : decode cX8_readLine 30 = .ok (.invokevirtual 61, 3) := by decide +kernel
theorem dX8_readLine_33 : decode cX8_readLine 33 = .ok (.ireturn, 1) := by decide +kernel
theorem dX8_readLine_34 : decode cX8_readLine 34 = .ok (.aload_n 0, 1) := by decide +kernel
theorem dX8_readLine_35 : decode cX8_readLine 35 = .ok (.getfield 12, 3) := by decide +kernel
theorem dX8_readLine_38 : decode cX8_readLine 38 = .ok (.ldc 64, 2) := by decide +kernel
theorem dX8_readLine_40 : decode cX8_readLine 40 = .ok (.invokevirtual 52, 3) := by decide +kernel
theorem dX8_readLine_43 : decode cX8_readLine 43 = .ok (.ifCond .eq 8, 3) := by decide +kernel
theorem dX8_readLine_46 : decode cX8_readLine 46 = .ok (.aload_n 0, 1) := by decide +kernel
theorem dX8_readLine_47 : decode cX8_readLine 47 = .ok (.invokevirtual 66, 3) := by decide +kernel
theorem dX8_readLine_50 : decode cX8_readLine 50 = .ok (.ireturn, 1) := by decide +kernel
theorem dX8_readLine_51 : decode cX8_readLine 51 = .ok (.aload_n 0, 1) := by decide +kernel
theorem dX8_readLine_52 : decode cX8_readLine 52 = .ok (.getfield 12, 3) := by decide +kernel
theorem dX8_readLine_55 : decode cX8_readLine 55 = .ok (.ldc 69, 2) := by decide +kernel
theorem dX8_readLine_57 : decode cX8_readLine 57 = .ok (.invokevirtual 52, 3) := by decide +kernel
theorem dX8_readLine_60 : decode cX8_readLine 60 = .ok (.ifCond .eq 8, 3) := by decide +kernel
theorem dX8_readLine_63 : decode cX8_readLine 63 = .ok (.aload_n 0, 1) := by decide +kernel
theorem dX8_readLine_64 : decode cX8_readLine 64 = .ok (.invokevirtual 71, 3) := by decide +kernel
theorem dX8_readLine_67 : decode cX8_readLine 67 = .ok (.ireturn, 1) := by decide +kernel
theorem dX8_readLine_68 : decode cX8_readLine 68 = .ok (.aload_n 0, 1) := by decide +kernel
theorem dX8_readLine_69 : decode cX8_readLine 69 = .ok (.getfield 12, 3) := by decide +kernel
theorem dX8_readLine_72 : decode cX8_readLine 72 = .ok (.ldc 74, 2) := by decide +kernel
theorem dX8_readLine_74 : decode cX8_readLine 74 = .ok (.invokevirtual 52, 3) := by decide +kernel
theorem dX8_readLine_77 : decode cX8_readLine 77 = .ok (.ifCond .eq 8, 3) := by decide +kernel
theorem dX8_readLine_80 : decode cX8_readLine 80 = .ok (.aload_n 0, 1) := by decide +kernel
theorem dX8_readLine_81 : decode cX8_readLine 81 = .ok (.invokevirtual 76, 3) := by decide +kernel
theorem dX8_readLine_84 : decode cX8_readLine 84 = .ok (.ireturn, 1) := by decide +kernel
theorem dX8_readLine_85 : decode cX8_readLine 85 = .ok (.aload_n 0, 1) := by decide +kernel
theorem dX8_readLine_86 : decode cX8_readLine 86 = .ok (.iconst 1, 1) := by decide +kernel
theorem dX8_readLine_87 : decode cX8_readLine 87 = .ok (.invokevirtual 43, 3) := by decide +kernel
theorem dX8_readLine_90 : decode cX8_readLine 90 = .ok (.ireturn, 1) := by decide +kernel
abbrev j8_readLine : xJ := (cX8_readLine, 1, RX8, 8, 0, 0)
def F8_readLine (z : Nat) (c_fault : Int32) (c_t_bytes : (Nat → Int32)) (c_t_kind : Int32) (c_t_from : Int32) (c_t_behind : Int32) (c_t_end : Int32) (c_s_fields : Int32) (c_s_ties : Int32) (c_s_worth : (Nat → Int32)) (c_s_forces : (Nat → Int32)) (c_s_many : (Nat → Int32)) (c_s_codes : (Nat → Nat → Int32)) (c_s_b_list : (Nat → Nat → Int32)) (c_s_b_many : (Nat → Int32)) (c_s_p_list : (Nat → Nat → Int32)) (c_s_p_weights : (Nat → Nat → Int32)) (c_s_p_drawn : (Nat → Nat → Int32)) (c_s_p_many : (Nat → Int32)) (c_s_p_all : (Nat → Int32)) (c_s_p_turns : (Nat → Int32)) : Option (Int32 × Int32 × Int32 × Int32 × Int32 × Int32 × Int32 × (Nat → Int32) × (Nat → Int32) × (Nat → Int32) × (Nat → Nat → Int32) × (Nat → Nat → Int32) × (Nat → Int32) × (Nat → Nat → Int32) × (Nat → Nat → Int32) × (Nat → Nat → Int32) × (Nat → Int32) × (Nat → Int32) × (Nat → Int32)) :=
  (F7_isWord z 0 c_t_bytes c_t_kind c_t_from c_t_behind).bind (fun v4 => if v4 = 0 then ((F7_isWord z 1 c_t_bytes c_t_kind c_t_from c_t_behind).bind (fun v21 => if v21 = 0 then ((F7_isWord z 2 c_t_bytes c_t_kind c_t_from c_t_behind).bind (fun v38 => if v38 = 0 then ((F7_isWord z 3 c_t_bytes c_t_kind c_t_from c_t_behind).bind (fun v55 => if v55 = 0 then ((F7_isWord z 4 c_t_bytes c_t_kind c_t_from c_t_behind).bind (fun v72 => if v72 = 0 then ((F8_refuse (1 : Int32) c_fault c_t_from).bind (fun v87 => xg (xbo v87.1) (some (v87.1, v87.2, c_t_kind, c_t_from, c_t_behind, c_s_fields, c_s_ties, c_s_worth, c_s_forces, c_s_many, c_s_codes, c_s_b_list, c_s_b_many, c_s_p_list, c_s_p_weights, c_s_p_drawn, c_s_p_many, c_s_p_all, c_s_p_turns)))) else ((F8_readPlan z c_fault c_t_bytes c_t_kind c_t_from c_t_behind c_t_end c_s_fields c_s_many c_s_codes c_s_p_list c_s_p_weights c_s_p_drawn c_s_p_many c_s_p_all c_s_p_turns).bind (fun v81 => xg (xbo v81.1) (some (v81.1, v81.2.1, v81.2.2.1, v81.2.2.2.1, v81.2.2.2.2.1, c_s_fields, c_s_ties, c_s_worth, c_s_forces, c_s_many, c_s_codes, c_s_b_list, c_s_b_many, v81.2.2.2.2.2.1, v81.2.2.2.2.2.2.1, v81.2.2.2.2.2.2.2.1, v81.2.2.2.2.2.2.2.2.1, v81.2.2.2.2.2.2.2.2.2.1, v81.2.2.2.2.2.2.2.2.2.2)))))) else ((F8_readBook z c_fault c_t_bytes c_t_kind c_t_from c_t_behind c_t_end c_s_fields c_s_many c_s_codes c_s_b_list c_s_b_many).bind (fun v64 => xg (xbo v64.1) (some (v64.1, v64.2.1, v64.2.2.1, v64.2.2.2.1, v64.2.2.2.2.1, c_s_fields, c_s_ties, c_s_worth, c_s_forces, c_s_many, c_s_codes, v64.2.2.2.2.2.1, v64.2.2.2.2.2.2, c_s_p_list, c_s_p_weights, c_s_p_drawn, c_s_p_many, c_s_p_all, c_s_p_turns)))))) else ((F8_readTies z c_fault c_t_bytes c_t_kind c_t_from c_t_behind c_t_end c_s_ties).bind (fun v47 => xg (xbo v47.1) (some (v47.1, v47.2.1, v47.2.2.1, v47.2.2.2.1, v47.2.2.2.2.1, c_s_fields, v47.2.2.2.2.2, c_s_worth, c_s_forces, c_s_many, c_s_codes, c_s_b_list, c_s_b_many, c_s_p_list, c_s_p_weights, c_s_p_drawn, c_s_p_many, c_s_p_all, c_s_p_turns)))))) else ((F8_readForces z c_fault c_t_bytes c_t_kind c_t_from c_t_behind c_t_end c_s_fields c_s_forces c_s_many c_s_codes c_s_b_many c_s_p_drawn c_s_p_many c_s_p_all c_s_p_turns).bind (fun v30 => xg (xbo v30.1) (some (v30.1, v30.2.1, v30.2.2.1, v30.2.2.2.1, v30.2.2.2.2.1, c_s_fields, c_s_ties, c_s_worth, v30.2.2.2.2.2.1, v30.2.2.2.2.2.2.1, v30.2.2.2.2.2.2.2.1, c_s_b_list, v30.2.2.2.2.2.2.2.2.1, c_s_p_list, c_s_p_weights, v30.2.2.2.2.2.2.2.2.2.1, v30.2.2.2.2.2.2.2.2.2.2.1, v30.2.2.2.2.2.2.2.2.2.2.2.1, v30.2.2.2.2.2.2.2.2.2.2.2.2)))))) else ((F8_readFields z c_fault c_t_bytes c_t_kind c_t_from c_t_behind c_t_end c_s_fields c_s_worth c_s_forces c_s_many c_s_codes c_s_b_many c_s_p_drawn c_s_p_many c_s_p_all c_s_p_turns).bind (fun v13 => xg (xbo v13.1) (some (v13.1, v13.2.1, v13.2.2.1, v13.2.2.2.1, v13.2.2.2.2.1, v13.2.2.2.2.2.1, c_s_ties, v13.2.2.2.2.2.2.1, c_s_forces, v13.2.2.2.2.2.2.2.1, v13.2.2.2.2.2.2.2.2.1, c_s_b_list, v13.2.2.2.2.2.2.2.2.2.1, c_s_p_list, c_s_p_weights, v13.2.2.2.2.2.2.2.2.2.2.1, v13.2.2.2.2.2.2.2.2.2.2.2.1, v13.2.2.2.2.2.2.2.2.2.2.2.2.1, v13.2.2.2.2.2.2.2.2.2.2.2.2.2)))))
theorem T8_readLine {X : xX} {z : Nat} {c_fault : Int32} {c_t_bytes : (Nat → Int32)} {c_t_kind : Int32} {c_t_from : Int32} {c_t_behind : Int32} {c_t_end : Int32} {c_s_fields : Int32} {c_s_ties : Int32} {c_s_worth : (Nat → Int32)} {c_s_forces : (Nat → Int32)} {c_s_many : (Nat → Int32)} {c_s_codes : (Nat → Nat → Int32)} {c_s_b_list : (Nat → Nat → Int32)} {c_s_b_many : (Nat → Int32)} {c_s_p_list : (Nat → Nat → Int32)} {c_s_p_weights : (Nat → Nat → Int32)} {c_s_p_drawn : (Nat → Nat → Int32)} {c_s_p_many : (Nat → Int32)} {c_s_p_all : (Nat → Int32)} {c_s_p_turns : (Nat → Int32)} {c_t_many : Int32} {v : Int32 × Int32 × Int32 × Int32 × Int32 × Int32 × Int32 × (Nat → Int32) × (Nat → Int32) × (Nat → Int32) × (Nat → Nat → Int32) × (Nat → Nat → Int32) × (Nat → Int32) × (Nat → Nat → Int32) × (Nat → Nat → Int32) × (Nat → Nat → Int32) × (Nat → Int32) × (Nat → Int32) × (Nat → Int32)} (hX : xIs (j8_readLine) X ((some .boolean)) (some (.int v.1)) (hLr v.2.1 c_t_bytes c_t_many v.2.2.1 v.2.2.2.1 v.2.2.2.2.1 c_t_end v.2.2.2.2.2.1 v.2.2.2.2.2.2.1 v.2.2.2.2.2.2.2.1 v.2.2.2.2.2.2.2.2.1 v.2.2.2.2.2.2.2.2.2.1 v.2.2.2.2.2.2.2.2.2.2.1 v.2.2.2.2.2.2.2.2.2.2.2.1 v.2.2.2.2.2.2.2.2.2.2.2.2.1 v.2.2.2.2.2.2.2.2.2.2.2.2.2.1 v.2.2.2.2.2.2.2.2.2.2.2.2.2.2.1 v.2.2.2.2.2.2.2.2.2.2.2.2.2.2.2.1 v.2.2.2.2.2.2.2.2.2.2.2.2.2.2.2.2.1 v.2.2.2.2.2.2.2.2.2.2.2.2.2.2.2.2.2.1 v.2.2.2.2.2.2.2.2.2.2.2.2.2.2.2.2.2.2)) (hf : F8_readLine z c_fault c_t_bytes c_t_kind c_t_from c_t_behind c_t_end c_s_fields c_s_ties c_s_worth c_s_forces c_s_many c_s_codes c_s_b_list c_s_b_many c_s_p_list c_s_p_weights c_s_p_drawn c_s_p_many c_s_p_all c_s_p_turns = some v) : xV (j8_readLine) X 0 0 (hLr c_fault c_t_bytes c_t_many c_t_kind c_t_from c_t_behind c_t_end c_s_fields c_s_ties c_s_worth c_s_forces c_s_many c_s_codes c_s_b_list c_s_b_many c_s_p_list c_s_p_weights c_s_p_drawn c_s_p_many c_s_p_all c_s_p_turns) 0 [(0, .ref 0)] [] := by
  unfold F8_readLine at hf
  refine xV_aload_n 1 rfl dX8_readLine_0 rfl 0 rfl ?_
  refine xV_get (v := .ref 1) 4 rfl dX8_readLine_1 f8_12 rfl rfl ?_
  obtain ⟨v4, hv4, hf⟩ := xb_s hf
  refine xV_isWord (g := (fun j => 1 + j)) (hl := (hT c_t_bytes c_t_many c_t_kind c_t_from c_t_behind c_t_end)) (rest := []) (ci := 7) (i := 0) 9 rfl (by decide) dX8_readLine_4 dX8_readLine_6 ⟨rfl, rfl⟩ rfl (C7_isWord X.1.2.1 (by decide) hv4) m7_isWord v7_isWord k8_52 rfl rfl (xScH_of (Nat.le_of_ble_eq_true rfl) rfl) e_Lr_T_L1 (Nat.le_of_ble_eq_true rfl) (Nat.le_of_ble_eq_true rfl) (Nat.le_of_ble_eq_true rfl) ⟨Nat.le_refl _, Nat.le_refl _⟩ ?_
  show xV (j8_readLine) X 0 0 (hLr c_fault c_t_bytes c_t_many c_t_kind c_t_from c_t_behind c_t_end c_s_fields c_s_ties c_s_worth c_s_forces c_s_many c_s_codes c_s_b_list c_s_b_many c_s_p_list c_s_p_weights c_s_p_drawn c_s_p_many c_s_p_all c_s_p_turns) 9 [(0, .ref 0)] [.int v4]
  refine xV_if_eq (tgt := 17) 12 rfl dX8_readLine_9 (by decide) (fun h9 => ?_) (fun h9 => ?_)
  · have hf := xif_t hf h9
    refine xV_aload_n 18 rfl dX8_readLine_17 rfl 0 rfl ?_
    refine xV_get (v := .ref 1) 21 rfl dX8_readLine_18 f8_12 rfl rfl ?_
    obtain ⟨v21, hv21, hf⟩ := xb_s hf
    refine xV_isWord (g := (fun j => 1 + j)) (hl := (hT c_t_bytes c_t_many c_t_kind c_t_from c_t_behind c_t_end)) (rest := []) (ci := 7) (i := 1) 26 rfl (by decide) dX8_readLine_21 dX8_readLine_23 ⟨rfl, rfl⟩ rfl (C7_isWord X.1.2.1 (by decide) hv21) m7_isWord v7_isWord k8_52 rfl rfl (xScH_of (Nat.le_of_ble_eq_true rfl) rfl) e_Lr_T_L1 (Nat.le_of_ble_eq_true rfl) (Nat.le_of_ble_eq_true rfl) (Nat.le_of_ble_eq_true rfl) ⟨Nat.le_refl _, Nat.le_refl _⟩ ?_
    show xV (j8_readLine) X 0 0 (hLr c_fault c_t_bytes c_t_many c_t_kind c_t_from c_t_behind c_t_end c_s_fields c_s_ties c_s_worth c_s_forces c_s_many c_s_codes c_s_b_list c_s_b_many c_s_p_list c_s_p_weights c_s_p_drawn c_s_p_many c_s_p_all c_s_p_turns) 26 [(0, .ref 0)] [.int v21]
    refine xV_if_eq (tgt := 34) 29 rfl dX8_readLine_26 (by decide) (fun h26 => ?_) (fun h26 => ?_)
    · have hf := xif_t hf h26
      refine xV_aload_n 35 rfl dX8_readLine_34 rfl 0 rfl ?_
      refine xV_get (v := .ref 1) 38 rfl dX8_readLine_35 f8_12 rfl rfl ?_
      obtain ⟨v38, hv38, hf⟩ := xb_s hf
      refine xV_isWord (g := (fun j => 1 + j)) (hl := (hT c_t_bytes c_t_many c_t_kind c_t_from c_t_behind c_t_end)) (rest := []) (ci := 7) (i := 2) 43 rfl (by decide) dX8_readLine_38 dX8_readLine_40 ⟨rfl, rfl⟩ rfl (C7_isWord X.1.2.1 (by decide) hv38) m7_isWord v7_isWord k8_52 rfl rfl (xScH_of (Nat.le_of_ble_eq_true rfl) rfl) e_Lr_T_L1 (Nat.le_of_ble_eq_true rfl) (Nat.le_of_ble_eq_true rfl) (Nat.le_of_ble_eq_true rfl) ⟨Nat.le_refl _, Nat.le_refl _⟩ ?_
      show xV (j8_readLine) X 0 0 (hLr c_fault c_t_bytes c_t_many c_t_kind c_t_from c_t_behind c_t_end c_s_fields c_s_ties c_s_worth c_s_forces c_s_many c_s_codes c_s_b_list c_s_b_many c_s_p_list c_s_p_weights c_s_p_drawn c_s_p_many c_s_p_all c_s_p_turns) 43 [(0, .ref 0)] [.int v38]
      refine xV_if_eq (tgt := 51) 46 rfl dX8_readLine_43 (by decide) (fun h43 => ?_) (fun h43 => ?_)
      · have hf := xif_t hf h43
        refine xV_aload_n 52 rfl dX8_readLine_51 rfl 0 rfl ?_
        refine xV_get (v := .ref 1) 55 rfl dX8_readLine_52 f8_12 rfl rfl ?_
        obtain ⟨v55, hv55, hf⟩ := xb_s hf
        refine xV_isWord (g := (fun j => 1 + j)) (hl := (hT c_t_bytes c_t_many c_t_kind c_t_from c_t_behind c_t_end)) (rest := []) (ci := 7) (i := 3) 60 rfl (by decide) dX8_readLine_55 dX8_readLine_57 ⟨rfl, rfl⟩ rfl (C7_isWord X.1.2.1 (by decide) hv55) m7_isWord v7_isWord k8_52 rfl rfl (xScH_of (Nat.le_of_ble_eq_true rfl) rfl) e_Lr_T_L1 (Nat.le_of_ble_eq_true rfl) (Nat.le_of_ble_eq_true rfl) (Nat.le_of_ble_eq_true rfl) ⟨Nat.le_refl _, Nat.le_refl _⟩ ?_
        show xV (j8_readLine) X 0 0 (hLr c_fault c_t_bytes c_t_many c_t_kind c_t_from c_t_behind c_t_end c_s_fields c_s_ties c_s_worth c_s_forces c_s_many c_s_codes c_s_b_list c_s_b_many c_s_p_list c_s_p_weights c_s_p_drawn c_s_p_many c_s_p_all c_s_p_turns) 60 [(0, .ref 0)] [.int v55]
        refine xV_if_eq (tgt := 68) 63 rfl dX8_readLine_60 (by decide) (fun h60 => ?_) (fun h60 => ?_)
        · have hf := xif_t hf h60
          refine xV_aload_n 69 rfl dX8_readLine_68 rfl 0 rfl ?_
          refine xV_get (v := .ref 1) 72 rfl dX8_readLine_69 f8_12 rfl rfl ?_
          obtain ⟨v72, hv72, hf⟩ := xb_s hf
          refine xV_isWord (g := (fun j => 1 + j)) (hl := (hT c_t_bytes c_t_many c_t_kind c_t_from c_t_behind c_t_end)) (rest := []) (ci := 7) (i := 4) 77 rfl (by decide) dX8_readLine_72 dX8_readLine_74 ⟨rfl, rfl⟩ rfl (C7_isWord X.1.2.1 (by decide) hv72) m7_isWord v7_isWord k8_52 rfl rfl (xScH_of (Nat.le_of_ble_eq_true rfl) rfl) e_Lr_T_L1 (Nat.le_of_ble_eq_true rfl) (Nat.le_of_ble_eq_true rfl) (Nat.le_of_ble_eq_true rfl) ⟨Nat.le_refl _, Nat.le_refl _⟩ ?_
          show xV (j8_readLine) X 0 0 (hLr c_fault c_t_bytes c_t_many c_t_kind c_t_from c_t_behind c_t_end c_s_fields c_s_ties c_s_worth c_s_forces c_s_many c_s_codes c_s_b_list c_s_b_many c_s_p_list c_s_p_weights c_s_p_drawn c_s_p_many c_s_p_all c_s_p_turns) 77 [(0, .ref 0)] [.int v72]
          refine xV_if_eq (tgt := 85) 80 rfl dX8_readLine_77 (by decide) (fun h77 => ?_) (fun h77 => ?_)
          · have hf := xif_t hf h77
            refine xV_aload_n 86 rfl dX8_readLine_85 rfl 0 rfl ?_
            refine xV_iconst 87 rfl dX8_readLine_86 xy_i1 ?_
            obtain ⟨v87, hv87, hf⟩ := xb_s hf
            refine xV_same (rest := []) 90 rfl dX8_readLine_87 rfl (C8_refuse X.1.2.1 hv87) m8_refuse v8_refuse k8_43 rfl rfl rfl rfl rfl (Nat.le_of_ble_eq_true rfl) (Nat.le_of_ble_eq_true rfl) (Nat.le_of_ble_eq_true rfl) ⟨Nat.le_refl _, Nat.le_refl _⟩ ?_
            show xV (j8_readLine) X 0 0 (hLr v87.2 c_t_bytes c_t_many c_t_kind c_t_from c_t_behind c_t_end c_s_fields c_s_ties c_s_worth c_s_forces c_s_many c_s_codes c_s_b_list c_s_b_many c_s_p_list c_s_p_weights c_s_p_drawn c_s_p_many c_s_p_all c_s_p_turns) 90 [(0, .ref 0)] [.int v87.1]
            obtain ⟨hgr, hf⟩ := xg_s hf
            obtain rfl := Option.some.inj hf
            exact xV_iret hX dX8_readLine_90 (xbo_ok hgr) (Nat.zero_le _) (Nat.zero_le _)
          · have hf := xif_f hf h77
            refine xV_aload_n 81 rfl dX8_readLine_80 rfl 0 rfl ?_
            obtain ⟨v81, hv81, hf⟩ := xb_s hf
            refine xV_same (rest := []) 84 rfl dX8_readLine_81 rfl (C8_readPlan X.1.2.1 hv81) m8_readPlan v8_readPlan k8_76 rfl rfl rfl rfl rfl (Nat.le_of_ble_eq_true rfl) (Nat.le_of_ble_eq_true rfl) (Nat.le_of_ble_eq_true rfl) ⟨Nat.le_refl _, Nat.le_refl _⟩ ?_
            show xV (j8_readLine) X 0 0 (hLr v81.2.1 c_t_bytes c_t_many v81.2.2.1 v81.2.2.2.1 v81.2.2.2.2.1 c_t_end c_s_fields c_s_ties c_s_worth c_s_forces c_s_many c_s_codes c_s_b_list c_s_b_many v81.2.2.2.2.2.1 v81.2.2.2.2.2.2.1 v81.2.2.2.2.2.2.2.1 v81.2.2.2.2.2.2.2.2.1 v81.2.2.2.2.2.2.2.2.2.1 v81.2.2.2.2.2.2.2.2.2.2) 84 [(0, .ref 0)] [.int v81.1]
            obtain ⟨hgr, hf⟩ := xg_s hf
            obtain rfl := Option.some.inj hf
            exact xV_iret hX dX8_readLine_84 (xbo_ok hgr) (Nat.zero_le _) (Nat.zero_le _)
        · have hf := xif_f hf h60
          refine xV_aload_n 64 rfl dX8_readLine_63 rfl 0 rfl ?_
          obtain ⟨v64, hv64, hf⟩ := xb_s hf
          refine xV_same (rest := []) 67 rfl dX8_readLine_64 rfl (C8_readBook X.1.2.1 hv64) m8_readBook v8_readBook k8_71 rfl rfl rfl rfl rfl (Nat.le_of_ble_eq_true rfl) (Nat.le_of_ble_eq_true rfl) (Nat.le_of_ble_eq_true rfl) ⟨Nat.le_refl _, Nat.le_refl _⟩ ?_
          show xV (j8_readLine) X 0 0 (hLr v64.2.1 c_t_bytes c_t_many v64.2.2.1 v64.2.2.2.1 v64.2.2.2.2.1 c_t_end c_s_fields c_s_ties c_s_worth c_s_forces c_s_many c_s_codes v64.2.2.2.2.2.1 v64.2.2.2.2.2.2 c_s_p_list c_s_p_weights c_s_p_drawn c_s_p_many c_s_p_all c_s_p_turns) 67 [(0, .ref 0)] [.int v64.1]
          obtain ⟨hgr, hf⟩ := xg_s hf
          obtain rfl := Option.some.inj hf
          exact xV_iret hX dX8_readLine_67 (xbo_ok hgr) (Nat.zero_le _) (Nat.zero_le _)
      · have hf := xif_f hf h43
        refine xV_aload_n 47 rfl dX8_readLine_46 rfl 0 rfl ?_
        obtain ⟨v47, hv47, hf⟩ := xb_s hf
        refine xV_same (rest := []) 50 rfl dX8_readLine_47 rfl (C8_readTies X.1.2.1 hv47) m8_readTies v8_readTies k8_66 rfl rfl rfl rfl rfl (Nat.le_of_ble_eq_true rfl) (Nat.le_of_ble_eq_true rfl) (Nat.le_of_ble_eq_true rfl) ⟨Nat.le_refl _, Nat.le_refl _⟩ ?_
        show xV (j8_readLine) X 0 0 (hLr v47.2.1 c_t_bytes c_t_many v47.2.2.1 v47.2.2.2.1 v47.2.2.2.2.1 c_t_end c_s_fields v47.2.2.2.2.2 c_s_worth c_s_forces c_s_many c_s_codes c_s_b_list c_s_b_many c_s_p_list c_s_p_weights c_s_p_drawn c_s_p_many c_s_p_all c_s_p_turns) 50 [(0, .ref 0)] [.int v47.1]
        obtain ⟨hgr, hf⟩ := xg_s hf
        obtain rfl := Option.some.inj hf
        exact xV_iret hX dX8_readLine_50 (xbo_ok hgr) (Nat.zero_le _) (Nat.zero_le _)
    · have hf := xif_f hf h26
      refine xV_aload_n 30 rfl dX8_readLine_29 rfl 0 rfl ?_
      obtain ⟨v30, hv30, hf⟩ := xb_s hf
      refine xV_same (rest := []) 33 rfl dX8_readLine_30 rfl (C8_readForces X.1.2.1 hv30) m8_readForces v8_readForces k8_61 rfl rfl rfl rfl rfl (Nat.le_of_ble_eq_true rfl) (Nat.le_of_ble_eq_true rfl) (Nat.le_of_ble_eq_true rfl) ⟨Nat.le_refl _, Nat.le_refl _⟩ ?_
      show xV (j8_readLine) X 0 0 (hLr v30.2.1 c_t_bytes c_t_many v30.2.2.1 v30.2.2.2.1 v30.2.2.2.2.1 c_t_end c_s_fields c_s_ties c_s_worth v30.2.2.2.2.2.1 v30.2.2.2.2.2.2.1 v30.2.2.2.2.2.2.2.1 c_s_b_list v30.2.2.2.2.2.2.2.2.1 c_s_p_list c_s_p_weights v30.2.2.2.2.2.2.2.2.2.1 v30.2.2.2.2.2.2.2.2.2.2.1 v30.2.2.2.2.2.2.2.2.2.2.2.1 v30.2.2.2.2.2.2.2.2.2.2.2.2) 33 [(0, .ref 0)] [.int v30.1]
      obtain ⟨hgr, hf⟩ := xg_s hf
      obtain rfl := Option.some.inj hf
      exact xV_iret hX dX8_readLine_33 (xbo_ok hgr) (Nat.zero_le _) (Nat.zero_le _)
  · have hf := xif_f hf h9
    refine xV_aload_n 13 rfl dX8_readLine_12 rfl 0 rfl ?_
    obtain ⟨v13, hv13, hf⟩ := xb_s hf
    refine xV_same (rest := []) 16 rfl dX8_readLine_13 rfl (C8_readFields X.1.2.1 hv13) m8_readFields v8_readFields k8_56 rfl rfl rfl rfl rfl (Nat.le_of_ble_eq_true rfl) (Nat.le_of_ble_eq_true rfl) (Nat.le_of_ble_eq_true rfl) ⟨Nat.le_refl _, Nat.le_refl _⟩ ?_
    show xV (j8_readLine) X 0 0 (hLr v13.2.1 c_t_bytes c_t_many v13.2.2.1 v13.2.2.2.1 v13.2.2.2.2.1 c_t_end v13.2.2.2.2.2.1 c_s_ties v13.2.2.2.2.2.2.1 c_s_forces v13.2.2.2.2.2.2.2.1 v13.2.2.2.2.2.2.2.2.1 c_s_b_list v13.2.2.2.2.2.2.2.2.2.1 c_s_p_list c_s_p_weights v13.2.2.2.2.2.2.2.2.2.2.1 v13.2.2.2.2.2.2.2.2.2.2.2.1 v13.2.2.2.2.2.2.2.2.2.2.2.2.1 v13.2.2.2.2.2.2.2.2.2.2.2.2.2) 16 [(0, .ref 0)] [.int v13.1]
    obtain ⟨hgr, hf⟩ := xg_s hf
    obtain rfl := Option.some.inj hf
    exact xV_iret hX dX8_readLine_16 (xbo_ok hgr) (Nat.zero_le _) (Nat.zero_le _)
theorem C8_readLine (l : Launch) {z : Nat} {c_fault : Int32} {c_t_bytes : (Nat → Int32)} {c_t_kind : Int32} {c_t_from : Int32} {c_t_behind : Int32} {c_t_end : Int32} {c_s_fields : Int32} {c_s_ties : Int32} {c_s_worth : (Nat → Int32)} {c_s_forces : (Nat → Int32)} {c_s_many : (Nat → Int32)} {c_s_codes : (Nat → Nat → Int32)} {c_s_b_list : (Nat → Nat → Int32)} {c_s_b_many : (Nat → Int32)} {c_s_p_list : (Nat → Nat → Int32)} {c_s_p_weights : (Nat → Nat → Int32)} {c_s_p_drawn : (Nat → Nat → Int32)} {c_s_p_many : (Nat → Int32)} {c_s_p_all : (Nat → Int32)} {c_s_p_turns : (Nat → Int32)} {c_t_many : Int32} {v : Int32 × Int32 × Int32 × Int32 × Int32 × Int32 × Int32 × (Nat → Int32) × (Nat → Int32) × (Nat → Int32) × (Nat → Nat → Int32) × (Nat → Nat → Int32) × (Nat → Int32) × (Nat → Nat → Int32) × (Nat → Nat → Int32) × (Nat → Nat → Int32) × (Nat → Int32) × (Nat → Int32) × (Nat → Int32)} (hf : F8_readLine z c_fault c_t_bytes c_t_kind c_t_from c_t_behind c_t_end c_s_fields c_s_ties c_s_worth c_s_forces c_s_many c_s_codes c_s_b_list c_s_b_many c_s_p_list c_s_p_weights c_s_p_drawn c_s_p_many c_s_p_all c_s_p_turns = some v) : xCt l yX8_readLine ((some .boolean)) j8_readLine [.ref 0] (hLr c_fault c_t_bytes c_t_many c_t_kind c_t_from c_t_behind c_t_end c_s_fields c_s_ties c_s_worth c_s_forces c_s_many c_s_codes c_s_b_list c_s_b_many c_s_p_list c_s_p_weights c_s_p_drawn c_s_p_many c_s_p_all c_s_p_turns) (some (.int v.1)) (hLr v.2.1 c_t_bytes c_t_many v.2.2.1 v.2.2.2.1 v.2.2.2.2.1 c_t_end v.2.2.2.2.2.1 v.2.2.2.2.2.2.1 v.2.2.2.2.2.2.2.1 v.2.2.2.2.2.2.2.2.1 v.2.2.2.2.2.2.2.2.2.1 v.2.2.2.2.2.2.2.2.2.2.1 v.2.2.2.2.2.2.2.2.2.2.2.1 v.2.2.2.2.2.2.2.2.2.2.2.2.1 v.2.2.2.2.2.2.2.2.2.2.2.2.2.1 v.2.2.2.2.2.2.2.2.2.2.2.2.2.2.1 v.2.2.2.2.2.2.2.2.2.2.2.2.2.2.2.1 v.2.2.2.2.2.2.2.2.2.2.2.2.2.2.2.2.1 v.2.2.2.2.2.2.2.2.2.2.2.2.2.2.2.2.2.1 v.2.2.2.2.2.2.2.2.2.2.2.2.2.2.2.2.2.2) := xCt_of (by decide) rfl (Nat.le_of_ble_eq_true rfl) (fun _ hX => T8_readLine hX hf)
theorem m8_readLine : xMd yX8_readLine RX8 ((some .boolean)) j8_readLine 0 := ⟨List.mem_of_getElem? (i := 248) (by decide +kernel), List.mem_of_getElem? (i := 19) (by decide +kernel), rfl, by decide +kernel⟩
theorem v8_readLine : xMv yX8_readLine RX8 := ⟨List.mem_of_getElem? (i := 246) (by decide +kernel), List.mem_of_getElem? (i := 247) (by decide +kernel)⟩
theorem k8_25 : Cond.methodLink RX8 25 yX7_begin ∈ wsL_law0 := List.mem_of_getElem? (i := 225) (by decide +kernel)
theorem k8_29 : Cond.methodLink RX8 29 yX8_readLine ∈ wsL_law0 := List.mem_of_getElem? (i := 245) (by decide +kernel)
theorem dX8_read_0 : decode cX8_read 0 = .ok (.aload_n 0, 1) := by decide +kernel
theorem dX8_read_1 : decode cX8_read 1 = .ok (.getfield 12, 3) := by decide +kernel
theorem dX8_read_4 : decode cX8_read 4 = .ok (.iload_n 1, 1) := by decide +kernel
theorem dX8_read_5 : decode cX8_read 5 = .ok (.invokevirtual 25, 3) := by decide +kernel
theorem dX8_read_8 : decode cX8_read 8 = .ok (.iconst 1, 1) := by decide +kernel
theorem dX8_read_9 : decode cX8_read 9 = .ok (.istore_n 2, 1) := by decide +kernel
theorem dX8_read_10 : decode cX8_read 10 = .ok (.iload_n 2, 1) := by decide +kernel
theorem dX8_read_11 : decode cX8_read 11 = .ok (.sipush 300, 3) := by decide +kernel
theorem dX8_read_14 : decode cX8_read 14 = .ok (.if_icmp .gt 54, 3) := by decide +kernel
theorem dX8_read_17 : decode cX8_read 17 = .ok (.aload_n 0, 1) := by decide +kernel
theorem dX8_read_18 : decode cX8_read 18 = .ok (.invokevirtual 29, 3) := by decide +kernel
theorem dX8_read_21 : decode cX8_read 21 = .ok (.ifCond .ne 8, 3) := by decide +kernel
theorem dX8_read_24 : decode cX8_read 24 = .ok (.aload_n 0, 1) := by decide +kernel
theorem dX8_read_25 : decode cX8_read 25 = .ok (.getfield 33, 3) := by decide +kernel
theorem dX8_read_28 : decode cX8_read 28 = .ok (.ireturn, 1) := by decide +kernel
theorem dX8_read_29 : decode cX8_read 29 = .ok (.aload_n 0, 1) := by decide +kernel
theorem dX8_read_30 : decode cX8_read 30 = .ok (.getfield 12, 3) := by decide +kernel
theorem dX8_read_33 : decode cX8_read 33 = .ok (.getfield 37, 3) := by decide +kernel
theorem dX8_read_36 : decode cX8_read 36 = .ok (.ifCond .ne 5, 3) := by decide +kernel
theorem dX8_read_39 : decode cX8_read 39 = .ok (.iload_n 2, 1) := by decide +kernel
theorem dX8_read_40 : decode cX8_read 40 = .ok (.ireturn, 1) := by decide +kernel
theorem dX8_read_41 : decode cX8_read 41 = .ok (.aload_n 0, 1) := by decide +kernel
theorem dX8_read_42 : decode cX8_read 42 = .ok (.getfield 12, 3) := by decide +kernel
theorem dX8_read_45 : decode cX8_read 45 = .ok (.getfield 37, 3) := by decide +kernel
theorem dX8_read_48 : decode cX8_read 48 = .ok (.iconst 3, 1) := by decide +kernel
theorem dX8_read_49 : decode cX8_read 49 = .ok (.if_icmp .eq 6, 3) := by decide +kernel
theorem dX8_read_52 : decode cX8_read 52 = .ok (.goto 16, 3) := by decide +kernel
theorem dX8_read_55 : decode cX8_read 55 = .ok (.aload_n 0, 1) := by decide +kernel
theorem dX8_read_56 : decode cX8_read 56 = .ok (.getfield 12, 3) := by decide +kernel
theorem dX8_read_59 : decode cX8_read 59 = .ok (.invokevirtual 40, 3) := by decide +kernel
theorem dX8_read_62 : decode cX8_read 62 = .ok (.iinc 2 1, 3) := by decide +kernel
theorem dX8_read_65 : decode cX8_read 65 = .ok (.goto (-55), 3) := by decide +kernel
theorem dX8_read_68 : decode cX8_read 68 = .ok (.aload_n 0, 1) := by decide +kernel
theorem dX8_read_69 : decode cX8_read 69 = .ok (.iconst 1, 1) := by decide +kernel
theorem dX8_read_70 : decode cX8_read 70 = .ok (.invokevirtual 43, 3) := by decide +kernel
theorem dX8_read_73 : decode cX8_read 73 = .ok (.pop, 1) := by decide +kernel
theorem dX8_read_74 : decode cX8_read 74 = .ok (.aload_n 0, 1) := by decide +kernel
theorem dX8_read_75 : decode cX8_read 75 = .ok (.getfield 33, 3) := by decide +kernel
theorem dX8_read_78 : decode cX8_read 78 = .ok (.ireturn, 1) := by decide +kernel
abbrev j8_read : xJ := (cX8_read, 3, RX8, 9, 0, 0)
def F8_read_b68 (z : Nat) (c_fault : Int32) (c_t_bytes : (Nat → Int32)) (c_t_many : Int32) (c_t_kind : Int32) (c_t_from : Int32) (c_t_behind : Int32) (c_t_end : Int32) (c_s_fields : Int32) (c_s_ties : Int32) (c_s_worth : (Nat → Int32)) (c_s_forces : (Nat → Int32)) (c_s_many : (Nat → Int32)) (c_s_codes : (Nat → Nat → Int32)) (c_s_b_list : (Nat → Nat → Int32)) (c_s_b_many : (Nat → Int32)) (c_s_p_list : (Nat → Nat → Int32)) (c_s_p_weights : (Nat → Nat → Int32)) (c_s_p_drawn : (Nat → Nat → Int32)) (c_s_p_many : (Nat → Int32)) (c_s_p_all : (Nat → Int32)) (c_s_p_turns : (Nat → Int32)) : Option (Int32 × Int32 × Int32 × Int32 × Int32 × Int32 × Int32 × Int32 × (Nat → Int32) × (Nat → Int32) × (Nat → Int32) × (Nat → Nat → Int32) × (Nat → Nat → Int32) × (Nat → Int32) × (Nat → Nat → Int32) × (Nat → Nat → Int32) × (Nat → Nat → Int32) × (Nat → Int32) × (Nat → Int32) × (Nat → Int32)) :=
  (F8_refuse (1 : Int32) c_fault c_t_from).bind (fun v70 => some (v70.2, v70.2, c_t_kind, c_t_from, c_t_behind, c_t_end, c_s_fields, c_s_ties, c_s_worth, c_s_forces, c_s_many, c_s_codes, c_s_b_list, c_s_b_many, c_s_p_list, c_s_p_weights, c_s_p_drawn, c_s_p_many, c_s_p_all, c_s_p_turns))
theorem T8_read_b68 {X : xX}  {c_fault : Int32} {c_t_bytes : (Nat → Int32)} {c_t_many : Int32} {c_t_kind : Int32} {c_t_from : Int32} {c_t_behind : Int32} {c_t_end : Int32} {c_s_fields : Int32} {c_s_ties : Int32} {c_s_worth : (Nat → Int32)} {c_s_forces : (Nat → Int32)} {c_s_many : (Nat → Int32)} {c_s_codes : (Nat → Nat → Int32)} {c_s_b_list : (Nat → Nat → Int32)} {c_s_b_many : (Nat → Int32)} {c_s_p_list : (Nat → Nat → Int32)} {c_s_p_weights : (Nat → Nat → Int32)} {c_s_p_drawn : (Nat → Nat → Int32)} {c_s_p_many : (Nat → Int32)} {c_s_p_all : (Nat → Int32)} {c_s_p_turns : (Nat → Int32)} {z : Nat} {v : Int32 × Int32 × Int32 × Int32 × Int32 × Int32 × Int32 × Int32 × (Nat → Int32) × (Nat → Int32) × (Nat → Int32) × (Nat → Nat → Int32) × (Nat → Nat → Int32) × (Nat → Int32) × (Nat → Nat → Int32) × (Nat → Nat → Int32) × (Nat → Nat → Int32) × (Nat → Int32) × (Nat → Int32) × (Nat → Int32)} (hX : xIs (j8_read) X ((some .int)) (some (.int v.1)) (hLr v.2.1 c_t_bytes c_t_many v.2.2.1 v.2.2.2.1 v.2.2.2.2.1 v.2.2.2.2.2.1 v.2.2.2.2.2.2.1 v.2.2.2.2.2.2.2.1 v.2.2.2.2.2.2.2.2.1 v.2.2.2.2.2.2.2.2.2.1 v.2.2.2.2.2.2.2.2.2.2.1 v.2.2.2.2.2.2.2.2.2.2.2.1 v.2.2.2.2.2.2.2.2.2.2.2.2.1 v.2.2.2.2.2.2.2.2.2.2.2.2.2.1 v.2.2.2.2.2.2.2.2.2.2.2.2.2.2.1 v.2.2.2.2.2.2.2.2.2.2.2.2.2.2.2.1 v.2.2.2.2.2.2.2.2.2.2.2.2.2.2.2.2.1 v.2.2.2.2.2.2.2.2.2.2.2.2.2.2.2.2.2.1 v.2.2.2.2.2.2.2.2.2.2.2.2.2.2.2.2.2.2.1 v.2.2.2.2.2.2.2.2.2.2.2.2.2.2.2.2.2.2.2)) (hf : F8_read_b68 z c_fault c_t_bytes c_t_many c_t_kind c_t_from c_t_behind c_t_end c_s_fields c_s_ties c_s_worth c_s_forces c_s_many c_s_codes c_s_b_list c_s_b_many c_s_p_list c_s_p_weights c_s_p_drawn c_s_p_many c_s_p_all c_s_p_turns = some v) : xV (j8_read) X 0 0 (hLr c_fault c_t_bytes c_t_many c_t_kind c_t_from c_t_behind c_t_end c_s_fields c_s_ties c_s_worth c_s_forces c_s_many c_s_codes c_s_b_list c_s_b_many c_s_p_list c_s_p_weights c_s_p_drawn c_s_p_many c_s_p_all c_s_p_turns) 68 [(0, .ref 0)] [] := by
  unfold F8_read_b68 at hf
  refine xV_aload_n 69 rfl dX8_read_68 rfl 0 rfl ?_
  refine xV_iconst 70 rfl dX8_read_69 xy_i1 ?_
  obtain ⟨v70, hv70, hf⟩ := xb_s hf
  refine xV_same (rest := []) 73 rfl dX8_read_70 rfl (C8_refuse X.1.2.1 hv70) m8_refuse v8_refuse k8_43 rfl rfl rfl rfl rfl (Nat.le_of_ble_eq_true rfl) (Nat.le_of_ble_eq_true rfl) (Nat.le_of_ble_eq_true rfl) ⟨Nat.le_refl _, Nat.le_refl _⟩ ?_
  show xV (j8_read) X 0 0 (hLr v70.2 c_t_bytes c_t_many c_t_kind c_t_from c_t_behind c_t_end c_s_fields c_s_ties c_s_worth c_s_forces c_s_many c_s_codes c_s_b_list c_s_b_many c_s_p_list c_s_p_weights c_s_p_drawn c_s_p_many c_s_p_all c_s_p_turns) 73 [(0, .ref 0)] [.int v70.1]
  refine xV_pop 74 rfl dX8_read_73 rfl ?_
  refine xV_aload_n 75 rfl dX8_read_74 rfl 0 rfl ?_
  refine xV_get (v := .int v70.2) 78 rfl dX8_read_75 f8_33 rfl rfl ?_
  obtain rfl := Option.some.inj hf
  exact xV_iret hX dX8_read_78 rfl (Nat.zero_le _) (Nat.zero_le _)
def F8_read_b24 (z : Nat) (c_fault : Int32) (c_t_bytes : (Nat → Int32)) (c_t_many : Int32) (c_t_kind : Int32) (c_t_from : Int32) (c_t_behind : Int32) (c_t_end : Int32) (c_s_fields : Int32) (c_s_ties : Int32) (c_s_worth : (Nat → Int32)) (c_s_forces : (Nat → Int32)) (c_s_many : (Nat → Int32)) (c_s_codes : (Nat → Nat → Int32)) (c_s_b_list : (Nat → Nat → Int32)) (c_s_b_many : (Nat → Int32)) (c_s_p_list : (Nat → Nat → Int32)) (c_s_p_weights : (Nat → Nat → Int32)) (c_s_p_drawn : (Nat → Nat → Int32)) (c_s_p_many : (Nat → Int32)) (c_s_p_all : (Nat → Int32)) (c_s_p_turns : (Nat → Int32)) : Option (Int32 × Int32 × Int32 × Int32 × Int32 × Int32 × Int32 × Int32 × (Nat → Int32) × (Nat → Int32) × (Nat → Int32) × (Nat → Nat → Int32) × (Nat → Nat → Int32) × (Nat → Int32) × (Nat → Nat → Int32) × (Nat → Nat → Int32) × (Nat → Nat → Int32) × (Nat → Int32) × (Nat → Int32) × (Nat → Int32)) :=
  some (c_fault, c_fault, c_t_kind, c_t_from, c_t_behind, c_t_end, c_s_fields, c_s_ties, c_s_worth, c_s_forces, c_s_many, c_s_codes, c_s_b_list, c_s_b_many, c_s_p_list, c_s_p_weights, c_s_p_drawn, c_s_p_many, c_s_p_all, c_s_p_turns)
theorem T8_read_b24 {X : xX}  {c_fault : Int32} {c_t_bytes : (Nat → Int32)} {c_t_many : Int32} {c_t_kind : Int32} {c_t_from : Int32} {c_t_behind : Int32} {c_t_end : Int32} {c_s_fields : Int32} {c_s_ties : Int32} {c_s_worth : (Nat → Int32)} {c_s_forces : (Nat → Int32)} {c_s_many : (Nat → Int32)} {c_s_codes : (Nat → Nat → Int32)} {c_s_b_list : (Nat → Nat → Int32)} {c_s_b_many : (Nat → Int32)} {c_s_p_list : (Nat → Nat → Int32)} {c_s_p_weights : (Nat → Nat → Int32)} {c_s_p_drawn : (Nat → Nat → Int32)} {c_s_p_many : (Nat → Int32)} {c_s_p_all : (Nat → Int32)} {c_s_p_turns : (Nat → Int32)} {z : Nat} {v : Int32 × Int32 × Int32 × Int32 × Int32 × Int32 × Int32 × Int32 × (Nat → Int32) × (Nat → Int32) × (Nat → Int32) × (Nat → Nat → Int32) × (Nat → Nat → Int32) × (Nat → Int32) × (Nat → Nat → Int32) × (Nat → Nat → Int32) × (Nat → Nat → Int32) × (Nat → Int32) × (Nat → Int32) × (Nat → Int32)} (hX : xIs (j8_read) X ((some .int)) (some (.int v.1)) (hLr v.2.1 c_t_bytes c_t_many v.2.2.1 v.2.2.2.1 v.2.2.2.2.1 v.2.2.2.2.2.1 v.2.2.2.2.2.2.1 v.2.2.2.2.2.2.2.1 v.2.2.2.2.2.2.2.2.1 v.2.2.2.2.2.2.2.2.2.1 v.2.2.2.2.2.2.2.2.2.2.1 v.2.2.2.2.2.2.2.2.2.2.2.1 v.2.2.2.2.2.2.2.2.2.2.2.2.1 v.2.2.2.2.2.2.2.2.2.2.2.2.2.1 v.2.2.2.2.2.2.2.2.2.2.2.2.2.2.1 v.2.2.2.2.2.2.2.2.2.2.2.2.2.2.2.1 v.2.2.2.2.2.2.2.2.2.2.2.2.2.2.2.2.1 v.2.2.2.2.2.2.2.2.2.2.2.2.2.2.2.2.2.1 v.2.2.2.2.2.2.2.2.2.2.2.2.2.2.2.2.2.2.1 v.2.2.2.2.2.2.2.2.2.2.2.2.2.2.2.2.2.2.2)) (hf : F8_read_b24 z c_fault c_t_bytes c_t_many c_t_kind c_t_from c_t_behind c_t_end c_s_fields c_s_ties c_s_worth c_s_forces c_s_many c_s_codes c_s_b_list c_s_b_many c_s_p_list c_s_p_weights c_s_p_drawn c_s_p_many c_s_p_all c_s_p_turns = some v) : xV (j8_read) X 0 0 (hLr c_fault c_t_bytes c_t_many c_t_kind c_t_from c_t_behind c_t_end c_s_fields c_s_ties c_s_worth c_s_forces c_s_many c_s_codes c_s_b_list c_s_b_many c_s_p_list c_s_p_weights c_s_p_drawn c_s_p_many c_s_p_all c_s_p_turns) 24 [(0, .ref 0)] [] := by
  unfold F8_read_b24 at hf
  refine xV_aload_n 25 rfl dX8_read_24 rfl 0 rfl ?_
  refine xV_get (v := .int c_fault) 28 rfl dX8_read_25 f8_33 rfl rfl ?_
  obtain rfl := Option.some.inj hf
  exact xV_iret hX dX8_read_28 rfl (Nat.zero_le _) (Nat.zero_le _)
def F8_read_b10 (z : Nat) (w : Nat) (x2 : Int32) (c_fault : Int32) (c_t_bytes : (Nat → Int32)) (c_t_many : Int32) (c_t_kind : Int32) (c_t_from : Int32) (c_t_behind : Int32) (c_t_end : Int32) (c_s_fields : Int32) (c_s_ties : Int32) (c_s_worth : (Nat → Int32)) (c_s_forces : (Nat → Int32)) (c_s_many : (Nat → Int32)) (c_s_codes : (Nat → Nat → Int32)) (c_s_b_list : (Nat → Nat → Int32)) (c_s_b_many : (Nat → Int32)) (c_s_p_list : (Nat → Nat → Int32)) (c_s_p_weights : (Nat → Nat → Int32)) (c_s_p_drawn : (Nat → Nat → Int32)) (c_s_p_many : (Nat → Int32)) (c_s_p_all : (Nat → Int32)) (c_s_p_turns : (Nat → Int32)) : Option (Int32 × Int32 × Int32 × Int32 × Int32 × Int32 × Int32 × Int32 × (Nat → Int32) × (Nat → Int32) × (Nat → Int32) × (Nat → Nat → Int32) × (Nat → Nat → Int32) × (Nat → Int32) × (Nat → Nat → Int32) × (Nat → Nat → Int32) × (Nat → Nat → Int32) × (Nat → Int32) × (Nat → Int32) × (Nat → Int32)) := match w with
  | 0 => none
  | w + 1 => if (300 : Int32) < x2 then (F8_read_b68 z c_fault c_t_bytes c_t_many c_t_kind c_t_from c_t_behind c_t_end c_s_fields c_s_ties c_s_worth c_s_forces c_s_many c_s_codes c_s_b_list c_s_b_many c_s_p_list c_s_p_weights c_s_p_drawn c_s_p_many c_s_p_all c_s_p_turns) else ((F8_readLine z c_fault c_t_bytes c_t_kind c_t_from c_t_behind c_t_end c_s_fields c_s_ties c_s_worth c_s_forces c_s_many c_s_codes c_s_b_list c_s_b_many c_s_p_list c_s_p_weights c_s_p_drawn c_s_p_many c_s_p_all c_s_p_turns).bind (fun v18 => if v18.1 = 0 then (F8_read_b24 z v18.2.1 c_t_bytes c_t_many v18.2.2.1 v18.2.2.2.1 v18.2.2.2.2.1 c_t_end v18.2.2.2.2.2.1 v18.2.2.2.2.2.2.1 v18.2.2.2.2.2.2.2.1 v18.2.2.2.2.2.2.2.2.1 v18.2.2.2.2.2.2.2.2.2.1 v18.2.2.2.2.2.2.2.2.2.2.1 v18.2.2.2.2.2.2.2.2.2.2.2.1 v18.2.2.2.2.2.2.2.2.2.2.2.2.1 v18.2.2.2.2.2.2.2.2.2.2.2.2.2.1 v18.2.2.2.2.2.2.2.2.2.2.2.2.2.2.1 v18.2.2.2.2.2.2.2.2.2.2.2.2.2.2.2.1 v18.2.2.2.2.2.2.2.2.2.2.2.2.2.2.2.2.1 v18.2.2.2.2.2.2.2.2.2.2.2.2.2.2.2.2.2.1 v18.2.2.2.2.2.2.2.2.2.2.2.2.2.2.2.2.2.2) else (if v18.2.2.1 = 0 then (some (x2, v18.2.1, v18.2.2.1, v18.2.2.2.1, v18.2.2.2.2.1, c_t_end, v18.2.2.2.2.2.1, v18.2.2.2.2.2.2.1, v18.2.2.2.2.2.2.2.1, v18.2.2.2.2.2.2.2.2.1, v18.2.2.2.2.2.2.2.2.2.1, v18.2.2.2.2.2.2.2.2.2.2.1, v18.2.2.2.2.2.2.2.2.2.2.2.1, v18.2.2.2.2.2.2.2.2.2.2.2.2.1, v18.2.2.2.2.2.2.2.2.2.2.2.2.2.1, v18.2.2.2.2.2.2.2.2.2.2.2.2.2.2.1, v18.2.2.2.2.2.2.2.2.2.2.2.2.2.2.2.1, v18.2.2.2.2.2.2.2.2.2.2.2.2.2.2.2.2.1, v18.2.2.2.2.2.2.2.2.2.2.2.2.2.2.2.2.2.1, v18.2.2.2.2.2.2.2.2.2.2.2.2.2.2.2.2.2.2)) else (if v18.2.2.1 = (3 : Int32) then ((F7_step z c_t_bytes v18.2.2.1 v18.2.2.2.1 v18.2.2.2.2.1 c_t_end).bind (fun v59 => F8_read_b10 z w (x2 + (1 : Int32)) v18.2.1 c_t_bytes c_t_many v59.1 v59.2.1 v59.2.2 c_t_end v18.2.2.2.2.2.1 v18.2.2.2.2.2.2.1 v18.2.2.2.2.2.2.2.1 v18.2.2.2.2.2.2.2.2.1 v18.2.2.2.2.2.2.2.2.2.1 v18.2.2.2.2.2.2.2.2.2.2.1 v18.2.2.2.2.2.2.2.2.2.2.2.1 v18.2.2.2.2.2.2.2.2.2.2.2.2.1 v18.2.2.2.2.2.2.2.2.2.2.2.2.2.1 v18.2.2.2.2.2.2.2.2.2.2.2.2.2.2.1 v18.2.2.2.2.2.2.2.2.2.2.2.2.2.2.2.1 v18.2.2.2.2.2.2.2.2.2.2.2.2.2.2.2.2.1 v18.2.2.2.2.2.2.2.2.2.2.2.2.2.2.2.2.2.1 v18.2.2.2.2.2.2.2.2.2.2.2.2.2.2.2.2.2.2)) else (F8_read_b68 z v18.2.1 c_t_bytes c_t_many v18.2.2.1 v18.2.2.2.1 v18.2.2.2.2.1 c_t_end v18.2.2.2.2.2.1 v18.2.2.2.2.2.2.1 v18.2.2.2.2.2.2.2.1 v18.2.2.2.2.2.2.2.2.1 v18.2.2.2.2.2.2.2.2.2.1 v18.2.2.2.2.2.2.2.2.2.2.1 v18.2.2.2.2.2.2.2.2.2.2.2.1 v18.2.2.2.2.2.2.2.2.2.2.2.2.1 v18.2.2.2.2.2.2.2.2.2.2.2.2.2.1 v18.2.2.2.2.2.2.2.2.2.2.2.2.2.2.1 v18.2.2.2.2.2.2.2.2.2.2.2.2.2.2.2.1 v18.2.2.2.2.2.2.2.2.2.2.2.2.2.2.2.2.1 v18.2.2.2.2.2.2.2.2.2.2.2.2.2.2.2.2.2.1 v18.2.2.2.2.2.2.2.2.2.2.2.2.2.2.2.2.2.2)))))
theorem T8_read_b10 {X : xX} {c_t_bytes : (Nat → Int32)} {c_t_many : Int32} {z : Nat} {v : Int32 × Int32 × Int32 × Int32 × Int32 × Int32 × Int32 × Int32 × (Nat → Int32) × (Nat → Int32) × (Nat → Int32) × (Nat → Nat → Int32) × (Nat → Nat → Int32) × (Nat → Int32) × (Nat → Nat → Int32) × (Nat → Nat → Int32) × (Nat → Nat → Int32) × (Nat → Int32) × (Nat → Int32) × (Nat → Int32)} (hX : xIs (j8_read) X ((some .int)) (some (.int v.1)) (hLr v.2.1 c_t_bytes c_t_many v.2.2.1 v.2.2.2.1 v.2.2.2.2.1 v.2.2.2.2.2.1 v.2.2.2.2.2.2.1 v.2.2.2.2.2.2.2.1 v.2.2.2.2.2.2.2.2.1 v.2.2.2.2.2.2.2.2.2.1 v.2.2.2.2.2.2.2.2.2.2.1 v.2.2.2.2.2.2.2.2.2.2.2.1 v.2.2.2.2.2.2.2.2.2.2.2.2.1 v.2.2.2.2.2.2.2.2.2.2.2.2.2.1 v.2.2.2.2.2.2.2.2.2.2.2.2.2.2.1 v.2.2.2.2.2.2.2.2.2.2.2.2.2.2.2.1 v.2.2.2.2.2.2.2.2.2.2.2.2.2.2.2.2.1 v.2.2.2.2.2.2.2.2.2.2.2.2.2.2.2.2.2.1 v.2.2.2.2.2.2.2.2.2.2.2.2.2.2.2.2.2.2.1 v.2.2.2.2.2.2.2.2.2.2.2.2.2.2.2.2.2.2.2)) : ∀ (w : Nat) {x2 : Int32} {c_fault : Int32} {c_t_kind : Int32} {c_t_from : Int32} {c_t_behind : Int32} {c_t_end : Int32} {c_s_fields : Int32} {c_s_ties : Int32} {c_s_worth : (Nat → Int32)} {c_s_forces : (Nat → Int32)} {c_s_many : (Nat → Int32)} {c_s_codes : (Nat → Nat → Int32)} {c_s_b_list : (Nat → Nat → Int32)} {c_s_b_many : (Nat → Int32)} {c_s_p_list : (Nat → Nat → Int32)} {c_s_p_weights : (Nat → Nat → Int32)} {c_s_p_drawn : (Nat → Nat → Int32)} {c_s_p_many : (Nat → Int32)} {c_s_p_all : (Nat → Int32)} {c_s_p_turns : (Nat → Int32)}, F8_read_b10 z w x2 c_fault c_t_bytes c_t_many c_t_kind c_t_from c_t_behind c_t_end c_s_fields c_s_ties c_s_worth c_s_forces c_s_many c_s_codes c_s_b_list c_s_b_many c_s_p_list c_s_p_weights c_s_p_drawn c_s_p_many c_s_p_all c_s_p_turns = some v → xV (j8_read) X 0 0 (hLr c_fault c_t_bytes c_t_many c_t_kind c_t_from c_t_behind c_t_end c_s_fields c_s_ties c_s_worth c_s_forces c_s_many c_s_codes c_s_b_list c_s_b_many c_s_p_list c_s_p_weights c_s_p_drawn c_s_p_many c_s_p_all c_s_p_turns) 10 [(0, .ref 0), (2, .int x2)] [] := by
  intro w
  induction w with
  | zero => intro x2 c_fault c_t_kind c_t_from c_t_behind c_t_end c_s_fields c_s_ties c_s_worth c_s_forces c_s_many c_s_codes c_s_b_list c_s_b_many c_s_p_list c_s_p_weights c_s_p_drawn c_s_p_many c_s_p_all c_s_p_turns hf; cases hf
  | succ w ih =>
    intro x2 c_fault c_t_kind c_t_from c_t_behind c_t_end c_s_fields c_s_ties c_s_worth c_s_forces c_s_many c_s_codes c_s_b_list c_s_b_many c_s_p_list c_s_p_weights c_s_p_drawn c_s_p_many c_s_p_all c_s_p_turns hf
    unfold F8_read_b10 at hf
    refine xV_iload_n 11 rfl dX8_read_10 rfl 1 rfl ?_
    refine xV_sipush 14 rfl dX8_read_11 xy_s300 ?_
    refine xV_icmp_gt (tgt := 68) 17 rfl dX8_read_14 (by decide) (fun h14 => ?_) (fun h14 => ?_)
    · have hf := xif_t hf h14
      refine xV_sub [0] rfl ?_
      exact T8_read_b68 hX hf
    · have hf := xif_f hf h14
      refine xV_aload_n 18 rfl dX8_read_17 rfl 0 rfl ?_
      obtain ⟨v18, hv18, hf⟩ := xb_s hf
      refine xV_same (rest := []) 21 rfl dX8_read_18 rfl (C8_readLine X.1.2.1 hv18) m8_readLine v8_readLine k8_29 rfl rfl rfl rfl rfl (Nat.le_of_ble_eq_true rfl) (Nat.le_of_ble_eq_true rfl) (Nat.le_of_ble_eq_true rfl) ⟨Nat.le_refl _, Nat.le_refl _⟩ ?_
      show xV (j8_read) X 0 0 (hLr v18.2.1 c_t_bytes c_t_many v18.2.2.1 v18.2.2.2.1 v18.2.2.2.2.1 c_t_end v18.2.2.2.2.2.1 v18.2.2.2.2.2.2.1 v18.2.2.2.2.2.2.2.1 v18.2.2.2.2.2.2.2.2.1 v18.2.2.2.2.2.2.2.2.2.1 v18.2.2.2.2.2.2.2.2.2.2.1 v18.2.2.2.2.2.2.2.2.2.2.2.1 v18.2.2.2.2.2.2.2.2.2.2.2.2.1 v18.2.2.2.2.2.2.2.2.2.2.2.2.2.1 v18.2.2.2.2.2.2.2.2.2.2.2.2.2.2.1 v18.2.2.2.2.2.2.2.2.2.2.2.2.2.2.2.1 v18.2.2.2.2.2.2.2.2.2.2.2.2.2.2.2.2.1 v18.2.2.2.2.2.2.2.2.2.2.2.2.2.2.2.2.2.1 v18.2.2.2.2.2.2.2.2.2.2.2.2.2.2.2.2.2.2) 21 [(0, .ref 0), (2, .int x2)] [.int v18.1]
      refine xV_if_ne (tgt := 29) 24 rfl dX8_read_21 (by decide) (fun h21 => ?_) (fun h21 => ?_)
      · have hf := xif_f hf h21
        refine xV_aload_n 30 rfl dX8_read_29 rfl 0 rfl ?_
        refine xV_get (v := .ref 1) 33 rfl dX8_read_30 f8_12 rfl rfl ?_
        refine xV_get (v := .int v18.2.2.1) 36 rfl dX8_read_33 f8_37 rfl rfl ?_
        refine xV_if_ne (tgt := 41) 39 rfl dX8_read_36 (by decide) (fun h36 => ?_) (fun h36 => ?_)
        · have hf := xif_f hf h36
          refine xV_aload_n 42 rfl dX8_read_41 rfl 0 rfl ?_
          refine xV_get (v := .ref 1) 45 rfl dX8_read_42 f8_12 rfl rfl ?_
          refine xV_get (v := .int v18.2.2.1) 48 rfl dX8_read_45 f8_37 rfl rfl ?_
          refine xV_iconst 49 rfl dX8_read_48 xy_i3 ?_
          refine xV_icmp_eq (tgt := 55) 52 rfl dX8_read_49 (by decide) (fun h49 => ?_) (fun h49 => ?_)
          · have hf := xif_t hf h49
            refine xV_aload_n 56 rfl dX8_read_55 rfl 0 rfl ?_
            refine xV_get (v := .ref 1) 59 rfl dX8_read_56 f8_12 rfl rfl ?_
            obtain ⟨v59, hv59, hf⟩ := xb_s hf
            refine xV_vir2 (g := (fun j => 1 + j)) (hl := (hT c_t_bytes c_t_many v18.2.2.1 v18.2.2.2.1 v18.2.2.2.2.1 c_t_end)) (hl' := (hT c_t_bytes c_t_many v59.1 v59.2.1 v59.2.2 c_t_end)) (h' := (hLr v18.2.1 c_t_bytes c_t_many v59.1 v59.2.1 v59.2.2 c_t_end v18.2.2.2.2.2.1 v18.2.2.2.2.2.2.1 v18.2.2.2.2.2.2.2.1 v18.2.2.2.2.2.2.2.2.1 v18.2.2.2.2.2.2.2.2.2.1 v18.2.2.2.2.2.2.2.2.2.2.1 v18.2.2.2.2.2.2.2.2.2.2.2.1 v18.2.2.2.2.2.2.2.2.2.2.2.2.1 v18.2.2.2.2.2.2.2.2.2.2.2.2.2.1 v18.2.2.2.2.2.2.2.2.2.2.2.2.2.2.1 v18.2.2.2.2.2.2.2.2.2.2.2.2.2.2.2.1 v18.2.2.2.2.2.2.2.2.2.2.2.2.2.2.2.2.1 v18.2.2.2.2.2.2.2.2.2.2.2.2.2.2.2.2.2.1 v18.2.2.2.2.2.2.2.2.2.2.2.2.2.2.2.2.2.2)) (rest := []) (ci := 7) 62 rfl dX8_read_59 rfl (C7_step X.1.2.1 hv59) m7_step v7_step k8_40 rfl rfl rfl (e_Lr_T_L1) rfl (Nat.le_of_ble_eq_true rfl) (Nat.le_of_ble_eq_true rfl) (Nat.le_of_ble_eq_true rfl) ⟨Nat.le_refl _, Nat.le_refl _⟩ ?_
            show xV (j8_read) X 0 0 (hLr v18.2.1 c_t_bytes c_t_many v59.1 v59.2.1 v59.2.2 c_t_end v18.2.2.2.2.2.1 v18.2.2.2.2.2.2.1 v18.2.2.2.2.2.2.2.1 v18.2.2.2.2.2.2.2.2.1 v18.2.2.2.2.2.2.2.2.2.1 v18.2.2.2.2.2.2.2.2.2.2.1 v18.2.2.2.2.2.2.2.2.2.2.2.1 v18.2.2.2.2.2.2.2.2.2.2.2.2.1 v18.2.2.2.2.2.2.2.2.2.2.2.2.2.1 v18.2.2.2.2.2.2.2.2.2.2.2.2.2.2.1 v18.2.2.2.2.2.2.2.2.2.2.2.2.2.2.2.1 v18.2.2.2.2.2.2.2.2.2.2.2.2.2.2.2.2.1 v18.2.2.2.2.2.2.2.2.2.2.2.2.2.2.2.2.2.1 v18.2.2.2.2.2.2.2.2.2.2.2.2.2.2.2.2.2.2) 62 [(0, .ref 0), (2, .int x2)] []
            refine xV_iinc (L' := [(2, .int (x2 + (1 : Int32))), (0, .ref 0)]) 65 rfl dX8_read_62 1 rfl (xk_inc xy_i1) (xlt rfl) rfl ?_
            refine xV_goto (tgt := 10) dX8_read_65 (by decide) ?_
            refine xV_sub [1, 0] rfl ?_
            exact ih hf
          · have hf := xif_f hf h49
            refine xV_goto (tgt := 68) dX8_read_52 (by decide) ?_
            refine xV_sub [0] rfl ?_
            exact T8_read_b68 hX hf
        · have hf := xif_t hf h36
          refine xV_iload_n 40 rfl dX8_read_39 rfl 1 rfl ?_
          obtain rfl := Option.some.inj hf
          exact xV_iret hX dX8_read_40 rfl (Nat.zero_le _) (Nat.zero_le _)
      · have hf := xif_t hf h21
        refine xV_sub [0] rfl ?_
        exact T8_read_b24 hX hf
def F8_read (z : Nat) (x1 : Int32) (c_fault : Int32) (c_t_bytes : (Nat → Int32)) (c_t_many : Int32) (c_t_kind : Int32) (c_t_from : Int32) (c_t_behind : Int32) (c_t_end : Int32) (c_s_fields : Int32) (c_s_ties : Int32) (c_s_worth : (Nat → Int32)) (c_s_forces : (Nat → Int32)) (c_s_many : (Nat → Int32)) (c_s_codes : (Nat → Nat → Int32)) (c_s_b_list : (Nat → Nat → Int32)) (c_s_b_many : (Nat → Int32)) (c_s_p_list : (Nat → Nat → Int32)) (c_s_p_weights : (Nat → Nat → Int32)) (c_s_p_drawn : (Nat → Nat → Int32)) (c_s_p_many : (Nat → Int32)) (c_s_p_all : (Nat → Int32)) (c_s_p_turns : (Nat → Int32)) : Option (Int32 × Int32 × Int32 × Int32 × Int32 × Int32 × Int32 × Int32 × (Nat → Int32) × (Nat → Int32) × (Nat → Int32) × (Nat → Nat → Int32) × (Nat → Nat → Int32) × (Nat → Int32) × (Nat → Nat → Int32) × (Nat → Nat → Int32) × (Nat → Nat → Int32) × (Nat → Int32) × (Nat → Int32) × (Nat → Int32)) :=
  (F7_begin z x1 c_t_bytes c_t_many c_t_kind c_t_from c_t_behind c_t_end).bind (fun v5 => F8_read_b10 z z (1 : Int32) c_fault c_t_bytes c_t_many v5.1 v5.2.1 v5.2.2.1 v5.2.2.2 c_s_fields c_s_ties c_s_worth c_s_forces c_s_many c_s_codes c_s_b_list c_s_b_many c_s_p_list c_s_p_weights c_s_p_drawn c_s_p_many c_s_p_all c_s_p_turns)
theorem T8_read {X : xX} {z : Nat} {x1 : Int32} {c_fault : Int32} {c_t_bytes : (Nat → Int32)} {c_t_many : Int32} {c_t_kind : Int32} {c_t_from : Int32} {c_t_behind : Int32} {c_t_end : Int32} {c_s_fields : Int32} {c_s_ties : Int32} {c_s_worth : (Nat → Int32)} {c_s_forces : (Nat → Int32)} {c_s_many : (Nat → Int32)} {c_s_codes : (Nat → Nat → Int32)} {c_s_b_list : (Nat → Nat → Int32)} {c_s_b_many : (Nat → Int32)} {c_s_p_list : (Nat → Nat → Int32)} {c_s_p_weights : (Nat → Nat → Int32)} {c_s_p_drawn : (Nat → Nat → Int32)} {c_s_p_many : (Nat → Int32)} {c_s_p_all : (Nat → Int32)} {c_s_p_turns : (Nat → Int32)}  {v : Int32 × Int32 × Int32 × Int32 × Int32 × Int32 × Int32 × Int32 × (Nat → Int32) × (Nat → Int32) × (Nat → Int32) × (Nat → Nat → Int32) × (Nat → Nat → Int32) × (Nat → Int32) × (Nat → Nat → Int32) × (Nat → Nat → Int32) × (Nat → Nat → Int32) × (Nat → Int32) × (Nat → Int32) × (Nat → Int32)} (hX : xIs (j8_read) X ((some .int)) (some (.int v.1)) (hLr v.2.1 c_t_bytes c_t_many v.2.2.1 v.2.2.2.1 v.2.2.2.2.1 v.2.2.2.2.2.1 v.2.2.2.2.2.2.1 v.2.2.2.2.2.2.2.1 v.2.2.2.2.2.2.2.2.1 v.2.2.2.2.2.2.2.2.2.1 v.2.2.2.2.2.2.2.2.2.2.1 v.2.2.2.2.2.2.2.2.2.2.2.1 v.2.2.2.2.2.2.2.2.2.2.2.2.1 v.2.2.2.2.2.2.2.2.2.2.2.2.2.1 v.2.2.2.2.2.2.2.2.2.2.2.2.2.2.1 v.2.2.2.2.2.2.2.2.2.2.2.2.2.2.2.1 v.2.2.2.2.2.2.2.2.2.2.2.2.2.2.2.2.1 v.2.2.2.2.2.2.2.2.2.2.2.2.2.2.2.2.2.1 v.2.2.2.2.2.2.2.2.2.2.2.2.2.2.2.2.2.2.1 v.2.2.2.2.2.2.2.2.2.2.2.2.2.2.2.2.2.2.2)) (hf : F8_read z x1 c_fault c_t_bytes c_t_many c_t_kind c_t_from c_t_behind c_t_end c_s_fields c_s_ties c_s_worth c_s_forces c_s_many c_s_codes c_s_b_list c_s_b_many c_s_p_list c_s_p_weights c_s_p_drawn c_s_p_many c_s_p_all c_s_p_turns = some v) : xV (j8_read) X 0 0 (hLr c_fault c_t_bytes c_t_many c_t_kind c_t_from c_t_behind c_t_end c_s_fields c_s_ties c_s_worth c_s_forces c_s_many c_s_codes c_s_b_list c_s_b_many c_s_p_list c_s_p_weights c_s_p_drawn c_s_p_many c_s_p_all c_s_p_turns) 0 [(0, .ref 0), (1, .int x1)] [] := by
  unfold F8_read at hf
  refine xV_aload_n 1 rfl dX8_read_0 rfl 0 rfl ?_
  refine xV_get (v := .ref 1) 4 rfl dX8_read_1 f8_12 rfl rfl ?_
  refine xV_iload_n 5 rfl dX8_read_4 rfl 1 rfl ?_
  obtain ⟨v5, hv5, hf⟩ := xb_s hf
  refine xV_vir2 (g := (fun j => 1 + j)) (hl := (hT c_t_bytes c_t_many c_t_kind c_t_from c_t_behind c_t_end)) (hl' := (hT c_t_bytes c_t_many v5.1 v5.2.1 v5.2.2.1 v5.2.2.2)) (h' := (hLr c_fault c_t_bytes c_t_many v5.1 v5.2.1 v5.2.2.1 v5.2.2.2 c_s_fields c_s_ties c_s_worth c_s_forces c_s_many c_s_codes c_s_b_list c_s_b_many c_s_p_list c_s_p_weights c_s_p_drawn c_s_p_many c_s_p_all c_s_p_turns)) (rest := []) (ci := 7) 8 rfl dX8_read_5 rfl (C7_begin X.1.2.1 hv5) m7_begin v7_begin k8_25 rfl rfl rfl (e_Lr_T_L1) rfl (Nat.le_of_ble_eq_true rfl) (Nat.le_of_ble_eq_true rfl) (Nat.le_of_ble_eq_true rfl) ⟨Nat.le_refl _, Nat.le_refl _⟩ ?_
  show xV (j8_read) X 0 0 (hLr c_fault c_t_bytes c_t_many v5.1 v5.2.1 v5.2.2.1 v5.2.2.2 c_s_fields c_s_ties c_s_worth c_s_forces c_s_many c_s_codes c_s_b_list c_s_b_many c_s_p_list c_s_p_weights c_s_p_drawn c_s_p_many c_s_p_all c_s_p_turns) 8 [(0, .ref 0), (1, .int x1)] []
  refine xV_iconst 9 rfl dX8_read_8 xy_i1 ?_
  refine xV_istore_n (L' := [(2, .int (1 : Int32)), (0, .ref 0), (1, .int x1)]) 10 rfl dX8_read_9 rfl (xlt rfl) rfl ?_
  refine xV_sub [1, 0] rfl ?_
  exact T8_read_b10 hX _ hf
theorem C8_read (l : Launch) {z : Nat} {x1 : Int32} {c_fault : Int32} {c_t_bytes : (Nat → Int32)} {c_t_many : Int32} {c_t_kind : Int32} {c_t_from : Int32} {c_t_behind : Int32} {c_t_end : Int32} {c_s_fields : Int32} {c_s_ties : Int32} {c_s_worth : (Nat → Int32)} {c_s_forces : (Nat → Int32)} {c_s_many : (Nat → Int32)} {c_s_codes : (Nat → Nat → Int32)} {c_s_b_list : (Nat → Nat → Int32)} {c_s_b_many : (Nat → Int32)} {c_s_p_list : (Nat → Nat → Int32)} {c_s_p_weights : (Nat → Nat → Int32)} {c_s_p_drawn : (Nat → Nat → Int32)} {c_s_p_many : (Nat → Int32)} {c_s_p_all : (Nat → Int32)} {c_s_p_turns : (Nat → Int32)}  {v : Int32 × Int32 × Int32 × Int32 × Int32 × Int32 × Int32 × Int32 × (Nat → Int32) × (Nat → Int32) × (Nat → Int32) × (Nat → Nat → Int32) × (Nat → Nat → Int32) × (Nat → Int32) × (Nat → Nat → Int32) × (Nat → Nat → Int32) × (Nat → Nat → Int32) × (Nat → Int32) × (Nat → Int32) × (Nat → Int32)} (hf : F8_read z x1 c_fault c_t_bytes c_t_many c_t_kind c_t_from c_t_behind c_t_end c_s_fields c_s_ties c_s_worth c_s_forces c_s_many c_s_codes c_s_b_list c_s_b_many c_s_p_list c_s_p_weights c_s_p_drawn c_s_p_many c_s_p_all c_s_p_turns = some v) : xCt l yX8_read ((some .int)) j8_read [.ref 0, .int x1] (hLr c_fault c_t_bytes c_t_many c_t_kind c_t_from c_t_behind c_t_end c_s_fields c_s_ties c_s_worth c_s_forces c_s_many c_s_codes c_s_b_list c_s_b_many c_s_p_list c_s_p_weights c_s_p_drawn c_s_p_many c_s_p_all c_s_p_turns) (some (.int v.1)) (hLr v.2.1 c_t_bytes c_t_many v.2.2.1 v.2.2.2.1 v.2.2.2.2.1 v.2.2.2.2.2.1 v.2.2.2.2.2.2.1 v.2.2.2.2.2.2.2.1 v.2.2.2.2.2.2.2.2.1 v.2.2.2.2.2.2.2.2.2.1 v.2.2.2.2.2.2.2.2.2.2.1 v.2.2.2.2.2.2.2.2.2.2.2.1 v.2.2.2.2.2.2.2.2.2.2.2.2.1 v.2.2.2.2.2.2.2.2.2.2.2.2.2.1 v.2.2.2.2.2.2.2.2.2.2.2.2.2.2.1 v.2.2.2.2.2.2.2.2.2.2.2.2.2.2.2.1 v.2.2.2.2.2.2.2.2.2.2.2.2.2.2.2.2.1 v.2.2.2.2.2.2.2.2.2.2.2.2.2.2.2.2.2.1 v.2.2.2.2.2.2.2.2.2.2.2.2.2.2.2.2.2.2.1 v.2.2.2.2.2.2.2.2.2.2.2.2.2.2.2.2.2.2.2) := xCt_of (by decide) rfl (Nat.le_of_ble_eq_true rfl) (fun _ hX => T8_read hX hf)
theorem m8_read : xMd yX8_read RX8 ((some .int)) j8_read 1 := ⟨List.mem_of_getElem? (i := 222) (by decide +kernel), List.mem_of_getElem? (i := 19) (by decide +kernel), rfl, by decide +kernel⟩
theorem v8_read : xMv yX8_read RX8 := ⟨List.mem_of_getElem? (i := 220) (by decide +kernel), List.mem_of_getElem? (i := 221) (by decide +kernel)⟩
