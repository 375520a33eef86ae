theorem f9_296 : xFl RX9 296 9 7 := ⟨_, rfl, by decide, List.mem_of_getElem? (i := 1195) (by decide +kernel)⟩
theorem nf9_7 : ∀ q : vw_C, vwCl[9]? = some q → (q.2.1 7).2.2.2 = false := fun q e => by cases e; rfl
theorem dX9_state_0 : decode cX9_state 0 = .ok (.aload_n 0, 1) := by decide +kernel
theorem dX9_state_1 : decode cX9_state 1 = .ok (.getfield 296, 3) := by decide +kernel
theorem dX9_state_4 : decode cX9_state 4 = .ok (.istore_n 2, 1) := by decide +kernel
theorem dX9_state_5 : decode cX9_state 5 = .ok (.aload_n 0, 1) := by decide +kernel
theorem dX9_state_6 : decode cX9_state 6 = .ok (.iload_n 1, 1) := by decide +kernel
theorem dX9_state_7 : decode cX9_state 7 = .ok (.putfield 296, 3) := by decide +kernel
theorem dX9_state_10 : decode cX9_state 10 = .ok (.iload_n 2, 1) := by decide +kernel
theorem dX9_state_11 : decode cX9_state 11 = .ok (.ireturn, 1) := by decide +kernel
abbrev j9_state : xJ := (cX9_state, 3, RX9, 1, 0, 0)
def F9_state (x1 : Int32) (c_chance : Int32) : Option (Int32 × Int32) :=
  some (c_chance, x1)
theorem T9_state {X : xX} {x1 : Int32} {c_chance : Int32} {c_n_fields : Int32} {c_n_ties : Int32} {c_n_worth : (Nat → Int32)} {c_n_forces : (Nat → Int32)} {c_n_many : (Nat → Int32)} {c_n_codes : (Nat → Nat → Int32)} {c_n_b_list : (Nat → Nat → Int32)} {c_n_b_many : (Nat → Int32)} {c_n_p_list : (Nat → Nat → Int32)} {c_n_p_weights : (Nat → Nat → Int32)} {c_n_p_drawn : (Nat → Nat → Int32)} {c_n_p_many : (Nat → Int32)} {c_n_p_all : (Nat → Int32)} {c_n_p_turns : (Nat → Int32)} {c_l_fault : Int32} {c_l_t_bytes : (Nat → Int32)} {c_l_t_many : Int32} {c_l_t_kind : Int32} {c_l_t_from : Int32} {c_l_t_behind : Int32} {c_l_t_end : Int32} {c_l_s_fields : Int32} {c_l_s_ties : Int32} {c_l_s_worth : (Nat → Int32)} {c_l_s_forces : (Nat → Int32)} {c_l_s_many : (Nat → Int32)} {c_l_s_codes : (Nat → Nat → Int32)} {c_l_s_b_list : (Nat → Nat → Int32)} {c_l_s_b_many : (Nat → Int32)} {c_l_s_p_list : (Nat → Nat → Int32)} {c_l_s_p_weights : (Nat → Nat → Int32)} {c_l_s_p_drawn : (Nat → Nat → Int32)} {c_l_s_p_many : (Nat → Int32)} {c_l_s_p_all : (Nat → Int32)} {c_l_s_p_turns : (Nat → Int32)} {c_nt_seen : (Nat → Nat → Int32)} {c_nt_many : (Nat → Int32)} {c_v_kept : (Nat → Nat → Int32)} {c_v_many : (Nat → Int32)} {c_v_turns : Int32} {c_v_stale : Int32} {c_v_goes : (Nat → Nat → Int32)} {c_v_row : (Nat → Int32)} {c_w_all : Int32} {c_w_mass : (Nat → Nat → Int32)} {c_g_picks : (Nat → Nat → Int32)} {c_g_many : (Nat → Int32)} {c_g_table : (Nat → Nat → Int64)} {c_g_rowNames : (Nat → Int32)} {c_g_columnNames : (Nat → Int32)} {c_g_rows : Int32} {c_g_columns : Int32} {c_g_scale : Int64} {v : Int32 × Int32} (hX : xIs (j9_state) X ((some .int)) (some (.int v.1)) (hXx v.2 c_n_fields c_n_ties c_n_worth c_n_forces c_n_many c_n_codes c_n_b_list c_n_b_many c_n_p_list c_n_p_weights c_n_p_drawn c_n_p_many c_n_p_all c_n_p_turns c_l_fault c_l_t_bytes c_l_t_many c_l_t_kind c_l_t_from c_l_t_behind c_l_t_end c_l_s_fields c_l_s_ties c_l_s_worth c_l_s_forces c_l_s_many c_l_s_codes c_l_s_b_list c_l_s_b_many c_l_s_p_list c_l_s_p_weights c_l_s_p_drawn c_l_s_p_many c_l_s_p_all c_l_s_p_turns c_nt_seen c_nt_many c_v_kept c_v_many c_v_turns c_v_stale c_v_goes c_v_row c_w_all c_w_mass c_g_picks c_g_many c_g_table c_g_rowNames c_g_columnNames c_g_rows c_g_columns c_g_scale)) (hf : F9_state x1 c_chance = some v) : xV (j9_state) X 0 0 (hXx c_chance c_n_fields c_n_ties c_n_worth c_n_forces c_n_many c_n_codes c_n_b_list c_n_b_many c_n_p_list c_n_p_weights c_n_p_drawn c_n_p_many c_n_p_all c_n_p_turns c_l_fault c_l_t_bytes c_l_t_many c_l_t_kind c_l_t_from c_l_t_behind c_l_t_end c_l_s_fields c_l_s_ties c_l_s_worth c_l_s_forces c_l_s_many c_l_s_codes c_l_s_b_list c_l_s_b_many c_l_s_p_list c_l_s_p_weights c_l_s_p_drawn c_l_s_p_many c_l_s_p_all c_l_s_p_turns c_nt_seen c_nt_many c_v_kept c_v_many c_v_turns c_v_stale c_v_goes c_v_row c_w_all c_w_mass c_g_picks c_g_many c_g_table c_g_rowNames c_g_columnNames c_g_rows c_g_columns c_g_scale) 0 [(0, .ref 0), (1, .int x1)] [] := by
  unfold F9_state at hf
  refine xV_aload_n 1 rfl dX9_state_0 rfl 0 rfl ?_
  refine xV_get (v := .int c_chance) 4 rfl dX9_state_1 f9_296 rfl rfl ?_
  refine xV_istore_n (L' := [(2, .int c_chance), (0, .ref 0), (1, .int x1)]) 5 rfl dX9_state_4 rfl (xlt rfl) rfl ?_
  refine xV_aload_n 6 rfl dX9_state_5 rfl 1 rfl ?_
  refine xV_iload_n 7 rfl dX9_state_6 rfl 2 rfl ?_
  refine xV_put (h' := (hXx x1 c_n_fields c_n_ties c_n_worth c_n_forces c_n_many c_n_codes c_n_b_list c_n_b_many c_n_p_list c_n_p_weights c_n_p_drawn c_n_p_many c_n_p_all c_n_p_turns c_l_fault c_l_t_bytes c_l_t_many c_l_t_kind c_l_t_from c_l_t_behind c_l_t_end c_l_s_fields c_l_s_ties c_l_s_worth c_l_s_forces c_l_s_many c_l_s_codes c_l_s_b_list c_l_s_b_many c_l_s_p_list c_l_s_p_weights c_l_s_p_drawn c_l_s_p_many c_l_s_p_all c_l_s_p_turns c_nt_seen c_nt_many c_v_kept c_v_many c_v_turns c_v_stale c_v_goes c_v_row c_w_all c_w_mass c_g_picks c_g_many c_g_table c_g_rowNames c_g_columnNames c_g_rows c_g_columns c_g_scale)) 10 rfl dX9_state_7 f9_296 rfl nf9_7 (fun _ => rfl) (fun _ => rfl) (Nat.le_of_ble_eq_true rfl) rfl ?_
  refine xV_iload_n 11 rfl dX9_state_10 rfl 0 rfl ?_
  obtain rfl := Option.some.inj hf
  exact xV_iret hX dX9_state_11 rfl (Nat.zero_le _) (Nat.zero_le _)
theorem C9_state (l : Launch) {x1 : Int32} {c_chance : Int32} {c_n_fields : Int32} {c_n_ties : Int32} {c_n_worth : (Nat → Int32)} {c_n_forces : (Nat → Int32)} {c_n_many : (Nat → Int32)} {c_n_codes : (Nat → Nat → Int32)} {c_n_b_list : (Nat → Nat → Int32)} {c_n_b_many : (Nat → Int32)} {c_n_p_list : (Nat → Nat → Int32)} {c_n_p_weights : (Nat → Nat → Int32)} {c_n_p_drawn : (Nat → Nat → Int32)} {c_n_p_many : (Nat → Int32)} {c_n_p_all : (Nat → Int32)} {c_n_p_turns : (Nat → Int32)} {c_l_fault : Int32} {c_l_t_bytes : (Nat → Int32)} {c_l_t_many : Int32} {c_l_t_kind : Int32} {c_l_t_from : Int32} {c_l_t_behind : Int32} {c_l_t_end : Int32} {c_l_s_fields : Int32} {c_l_s_ties : Int32} {c_l_s_worth : (Nat → Int32)} {c_l_s_forces : (Nat → Int32)} {c_l_s_many : (Nat → Int32)} {c_l_s_codes : (Nat → Nat → Int32)} {c_l_s_b_list : (Nat → Nat → Int32)} {c_l_s_b_many : (Nat → Int32)} {c_l_s_p_list : (Nat → Nat → Int32)} {c_l_s_p_weights : (Nat → Nat → Int32)} {c_l_s_p_drawn : (Nat → Nat → Int32)} {c_l_s_p_many : (Nat → Int32)} {c_l_s_p_all : (Nat → Int32)} {c_l_s_p_turns : (Nat → Int32)} {c_nt_seen : (Nat → Nat → Int32)} {c_nt_many : (Nat → Int32)} {c_v_kept : (Nat → Nat → Int32)} {c_v_many : (Nat → Int32)} {c_v_turns : Int32} {c_v_stale : Int32} {c_v_goes : (Nat → Nat → Int32)} {c_v_row : (Nat → Int32)} {c_w_all : Int32} {c_w_mass : (Nat → Nat → Int32)} {c_g_picks : (Nat → Nat → Int32)} {c_g_many : (Nat → Int32)} {c_g_table : (Nat → Nat → Int64)} {c_g_rowNames : (Nat → Int32)} {c_g_columnNames : (Nat → Int32)} {c_g_rows : Int32} {c_g_columns : Int32} {c_g_scale : Int64} {v : Int32 × Int32} (hf : F9_state x1 c_chance = some v) : xCt l yX9_state ((some .int)) j9_state [.ref 0, .int x1] (hXx c_chance c_n_fields c_n_ties c_n_worth c_n_forces c_n_many c_n_codes c_n_b_list c_n_b_many c_n_p_list c_n_p_weights c_n_p_drawn c_n_p_many c_n_p_all c_n_p_turns c_l_fault c_l_t_bytes c_l_t_many c_l_t_kind c_l_t_from c_l_t_behind c_l_t_end c_l_s_fields c_l_s_ties c_l_s_worth c_l_s_forces c_l_s_many c_l_s_codes c_l_s_b_list c_l_s_b_many c_l_s_p_list c_l_s_p_weights c_l_s_p_drawn c_l_s_p_many c_l_s_p_all c_l_s_p_turns c_nt_seen c_nt_many c_v_kept c_v_many c_v_turns c_v_stale c_v_goes c_v_row c_w_all c_w_mass c_g_picks c_g_many c_g_table c_g_rowNames c_g_columnNames c_g_rows c_g_columns c_g_scale) (some (.int v.1)) (hXx v.2 c_n_fields c_n_ties c_n_worth c_n_forces c_n_many c_n_codes c_n_b_list c_n_b_many c_n_p_list c_n_p_weights c_n_p_drawn c_n_p_many c_n_p_all c_n_p_turns c_l_fault c_l_t_bytes c_l_t_many c_l_t_kind c_l_t_from c_l_t_behind c_l_t_end c_l_s_fields c_l_s_ties c_l_s_worth c_l_s_forces c_l_s_many c_l_s_codes c_l_s_b_list c_l_s_b_many c_l_s_p_list c_l_s_p_weights c_l_s_p_drawn c_l_s_p_many c_l_s_p_all c_l_s_p_turns c_nt_seen c_nt_many c_v_kept c_v_many c_v_turns c_v_stale c_v_goes c_v_row c_w_all c_w_mass c_g_picks c_g_many c_g_table c_g_rowNames c_g_columnNames c_g_rows c_g_columns c_g_scale) := xCt_of (by decide) rfl (Nat.le_of_ble_eq_true rfl) (fun _ hX => T9_state hX hf)
theorem m9_state : xMd yX9_state RX9 ((some .int)) j9_state 1 := ⟨List.mem_of_getElem? (i := 1194) (by decide +kernel), List.mem_of_getElem? (i := 2) (by decide +kernel), rfl, by decide +kernel⟩
theorem v9_state : xMv yX9_state RX9 := ⟨List.mem_of_getElem? (i := 1192) (by decide +kernel), List.mem_of_getElem? (i := 1193) (by decide +kernel)⟩
theorem q9_305 : Jvm.Cond.constant RX9 305 (1664525) ∈ wsL_law0 := List.mem_of_getElem? (i := 1217) (by decide +kernel)
theorem q9_306 : Jvm.Cond.constant RX9 306 (1013904223) ∈ wsL_law0 := List.mem_of_getElem? (i := 1218) (by decide +kernel)
theorem k9_307 : Cond.methodLink RX9 307 yX3_atPart ∈ wsL_law0 := List.mem_of_getElem? (i := 1219) (by decide +kernel)
theorem dX9_byChance_0 : decode cX9_byChance 0 = .ok (.aload_n 0, 1) := by decide +kernel
theorem dX9_byChance_1 : decode cX9_byChance 1 = .ok (.getfield 12, 3) := by decide +kernel
theorem dX9_byChance_4 : decode cX9_byChance 4 = .ok (.getfield 77, 3) := by decide +kernel
theorem dX9_byChance_7 : decode cX9_byChance 7 = .ok (.iload_n 1, 1) := by decide +kernel
theorem dX9_byChance_8 : decode cX9_byChance 8 = .ok (.aaload, 1) := by decide +kernel
theorem dX9_byChance_9 : decode cX9_byChance 9 = .ok (.astore_n 2, 1) := by decide +kernel
theorem dX9_byChance_10 : decode cX9_byChance 10 = .ok (.aload_n 0, 1) := by decide +kernel
theorem dX9_byChance_11 : decode cX9_byChance 11 = .ok (.aload_n 0, 1) := by decide +kernel
theorem dX9_byChance_12 : decode cX9_byChance 12 = .ok (.getfield 296, 3) := by decide +kernel
theorem dX9_byChance_15 : decode cX9_byChance 15 = .ok (.ldc_w 305, 3) := by decide +kernel
theorem dX9_byChance_18 : decode cX9_byChance 18 = .ok (.imul, 1) := by decide +kernel
theorem dX9_byChance_19 : decode cX9_byChance 19 = .ok (.ldc_w 306, 3) := by decide +kernel
theorem dX9_byChance_22 : decode cX9_byChance 22 = .ok (.iadd, 1) := by decide +kernel
theorem dX9_byChance_23 : decode cX9_byChance 23 = .ok (.putfield 296, 3) := by decide +kernel
theorem dX9_byChance_26 : decode cX9_byChance 26 = .ok (.aload_n 2, 1) := by decide +kernel
theorem dX9_byChance_27 : decode cX9_byChance 27 = .ok (.aload_n 2, 1) := by decide +kernel
theorem dX9_byChance_28 : decode cX9_byChance 28 = .ok (.getfield 281, 3) := by decide +kernel
theorem dX9_byChance_31 : decode cX9_byChance 31 = .ok (.ifCond .le 18, 3) := by decide +kernel
theorem dX9_byChance_34 : decode cX9_byChance 34 = .ok (.aload_n 0, 1) := by decide +kernel
theorem dX9_byChance_35 : decode cX9_byChance 35 = .ok (.getfield 296, 3) := by decide +kernel
theorem dX9_byChance_38 : decode cX9_byChance 38 = .ok (.bipush 8, 2) := by decide +kernel
theorem dX9_byChance_40 : decode cX9_byChance 40 = .ok (.iushr, 1) := by decide +kernel
theorem dX9_byChance_41 : decode cX9_byChance 41 = .ok (.aload_n 2, 1) := by decide +kernel
theorem dX9_byChance_42 : decode cX9_byChance 42 = .ok (.getfield 281, 3) := by decide +kernel
theorem dX9_byChance_45 : decode cX9_byChance 45 = .ok (.irem, 1) := by decide +kernel
theorem dX9_byChance_46 : decode cX9_byChance 46 = .ok (.goto 4, 3) := by decide +kernel
theorem dX9_byChance_49 : decode cX9_byChance 49 = .ok (.iconst 0, 1) := by decide +kernel
theorem dX9_byChance_50 : decode cX9_byChance 50 = .ok (.invokevirtual 307, 3) := by decide +kernel
theorem dX9_byChance_53 : decode cX9_byChance 53 = .ok (.ireturn, 1) := by decide +kernel
abbrev j9_byChance : xJ := (cX9_byChance, 3, RX9, 2, 0, 0)
def F9_byChance_b50 (z : Nat) (r0 : Nat) (s1 : Int32) (c_chance : Int32) (c_n_p_list : (Nat → Nat → Int32)) (c_n_p_weights : (Nat → Nat → Int32)) (c_n_p_many : (Nat → Int32)) (c_n_p_all : (Nat → Int32)) : Option (Int32 × Int32) :=
  xg (Nat.blt r0 2) ((F3_atPart z s1 (c_n_p_list r0) (c_n_p_weights r0) (c_n_p_many r0)).bind (fun v50 => some (v50, c_chance)))
theorem T9_byChance_b50 {X : xX} {c_n_fields : Int32} {c_n_ties : Int32} {c_n_worth : (Nat → Int32)} {c_n_forces : (Nat → Int32)} {c_n_many : (Nat → Int32)} {c_n_codes : (Nat → Nat → Int32)} {c_n_b_list : (Nat → Nat → Int32)} {c_n_b_many : (Nat → Int32)} {c_n_p_drawn : (Nat → Nat → Int32)} {c_n_p_turns : (Nat → Int32)} {c_l_fault : Int32} {c_l_t_bytes : (Nat → Int32)} {c_l_t_many : Int32} {c_l_t_kind : Int32} {c_l_t_from : Int32} {c_l_t_behind : Int32} {c_l_t_end : Int32} {c_l_s_fields : Int32} {c_l_s_ties : Int32} {c_l_s_worth : (Nat → Int32)} {c_l_s_forces : (Nat → Int32)} {c_l_s_many : (Nat → Int32)} {c_l_s_codes : (Nat → Nat → Int32)} {c_l_s_b_list : (Nat → Nat → Int32)} {c_l_s_b_many : (Nat → Int32)} {c_l_s_p_list : (Nat → Nat → Int32)} {c_l_s_p_weights : (Nat → Nat → Int32)} {c_l_s_p_drawn : (Nat → Nat → Int32)} {c_l_s_p_many : (Nat → Int32)} {c_l_s_p_all : (Nat → Int32)} {c_l_s_p_turns : (Nat → Int32)} {c_nt_seen : (Nat → Nat → Int32)} {c_nt_many : (Nat → Int32)} {c_v_kept : (Nat → Nat → Int32)} {c_v_many : (Nat → Int32)} {c_v_turns : Int32} {c_v_stale : Int32} {c_v_goes : (Nat → Nat → Int32)} {c_v_row : (Nat → Int32)} {c_w_all : Int32} {c_w_mass : (Nat → Nat → Int32)} {c_g_picks : (Nat → Nat → Int32)} {c_g_many : (Nat → Int32)} {c_g_table : (Nat → Nat → Int64)} {c_g_rowNames : (Nat → Int32)} {c_g_columnNames : (Nat → Int32)} {c_g_rows : Int32} {c_g_columns : Int32} {c_g_scale : Int64} {r0 : Nat} {s1 : Int32} {c_chance : Int32} {c_n_p_list : (Nat → Nat → Int32)} {c_n_p_weights : (Nat → Nat → Int32)} {c_n_p_many : (Nat → Int32)} {c_n_p_all : (Nat → Int32)} {z : Nat} {v : Int32 × Int32} (hX : xIs (j9_byChance) X ((some .int)) (some (.int v.1)) (hXx v.2 c_n_fields c_n_ties c_n_worth c_n_forces c_n_many c_n_codes c_n_b_list c_n_b_many c_n_p_list c_n_p_weights c_n_p_drawn c_n_p_many c_n_p_all c_n_p_turns c_l_fault c_l_t_bytes c_l_t_many c_l_t_kind c_l_t_from c_l_t_behind c_l_t_end c_l_s_fields c_l_s_ties c_l_s_worth c_l_s_forces c_l_s_many c_l_s_codes c_l_s_b_list c_l_s_b_many c_l_s_p_list c_l_s_p_weights c_l_s_p_drawn c_l_s_p_many c_l_s_p_all c_l_s_p_turns c_nt_seen c_nt_many c_v_kept c_v_many c_v_turns c_v_stale c_v_goes c_v_row c_w_all c_w_mass c_g_picks c_g_many c_g_table c_g_rowNames c_g_columnNames c_g_rows c_g_columns c_g_scale)) (hf : F9_byChance_b50 z r0 s1 c_chance c_n_p_list c_n_p_weights c_n_p_many c_n_p_all = some v) : xV (j9_byChance) X 0 0 (hXx c_chance c_n_fields c_n_ties c_n_worth c_n_forces c_n_many c_n_codes c_n_b_list c_n_b_many c_n_p_list c_n_p_weights c_n_p_drawn c_n_p_many c_n_p_all c_n_p_turns c_l_fault c_l_t_bytes c_l_t_many c_l_t_kind c_l_t_from c_l_t_behind c_l_t_end c_l_s_fields c_l_s_ties c_l_s_worth c_l_s_forces c_l_s_many c_l_s_codes c_l_s_b_list c_l_s_b_many c_l_s_p_list c_l_s_p_weights c_l_s_p_drawn c_l_s_p_many c_l_s_p_all c_l_s_p_turns c_nt_seen c_nt_many c_v_kept c_v_many c_v_turns c_v_stale c_v_goes c_v_row c_w_all c_w_mass c_g_picks c_g_many c_g_table c_g_rowNames c_g_columnNames c_g_rows c_g_columns c_g_scale) 50 [] [.int s1, .ref (14 + 4 * r0)] := by
  unfold F9_byChance_b50 at hf
  obtain ⟨hr0, hf⟩ := xg_s hf
  obtain ⟨v50, hv50, hf⟩ := xb_s hf
  refine xV_vir2 (g := (fun j => (14 + 4 * r0) + j)) (hl := (hP (c_n_p_list r0) (c_n_p_weights r0) (c_n_p_drawn r0) (c_n_p_many r0) (c_n_p_all r0) (c_n_p_turns r0))) (hl' := (hP (c_n_p_list r0) (c_n_p_weights r0) (c_n_p_drawn r0) (c_n_p_many r0) (c_n_p_all r0) (c_n_p_turns r0))) (h' := (hXx c_chance c_n_fields c_n_ties c_n_worth c_n_forces c_n_many c_n_codes c_n_b_list c_n_b_many c_n_p_list c_n_p_weights c_n_p_drawn c_n_p_many c_n_p_all c_n_p_turns c_l_fault c_l_t_bytes c_l_t_many c_l_t_kind c_l_t_from c_l_t_behind c_l_t_end c_l_s_fields c_l_s_ties c_l_s_worth c_l_s_forces c_l_s_many c_l_s_codes c_l_s_b_list c_l_s_b_many c_l_s_p_list c_l_s_p_weights c_l_s_p_drawn c_l_s_p_many c_l_s_p_all c_l_s_p_turns c_nt_seen c_nt_many c_v_kept c_v_many c_v_turns c_v_stale c_v_goes c_v_row c_w_all c_w_mass c_g_picks c_g_many c_g_table c_g_rowNames c_g_columnNames c_g_rows c_g_columns c_g_scale)) (rest := []) (ci := 3) 53 rfl dX9_byChance_50 rfl (C3_atPart X.1.2.1 hv50) m3_atPart v3_atPart k9_307 rfl rfl rfl (e_Xx_P_F2 (xblt hr0) (xup_same _ _) (xup_same _ _) (xup_same _ _) (xup_same _ _) (xup_same _ _) (xup_same _ _)) rfl (Nat.le_of_ble_eq_true rfl) (Nat.le_of_ble_eq_true rfl) (Nat.le_of_ble_eq_true rfl) ⟨Nat.le_refl _, Nat.le_refl _⟩ ?_
  show xV (j9_byChance) X 0 0 (hXx c_chance c_n_fields c_n_ties c_n_worth c_n_forces c_n_many c_n_codes c_n_b_list c_n_b_many c_n_p_list c_n_p_weights c_n_p_drawn c_n_p_many c_n_p_all c_n_p_turns c_l_fault c_l_t_bytes c_l_t_many c_l_t_kind c_l_t_from c_l_t_behind c_l_t_end c_l_s_fields c_l_s_ties c_l_s_worth c_l_s_forces c_l_s_many c_l_s_codes c_l_s_b_list c_l_s_b_many c_l_s_p_list c_l_s_p_weights c_l_s_p_drawn c_l_s_p_many c_l_s_p_all c_l_s_p_turns c_nt_seen c_nt_many c_v_kept c_v_many c_v_turns c_v_stale c_v_goes c_v_row c_w_all c_w_mass c_g_picks c_g_many c_g_table c_g_rowNames c_g_columnNames c_g_rows c_g_columns c_g_scale) 53 [] [.int v50]
  obtain rfl := Option.some.inj hf
  exact xV_iret hX dX9_byChance_53 rfl (Nat.zero_le _) (Nat.zero_le _)
def F9_byChance (z : Nat) (x1 : Int32) (c_chance : Int32) (c_n_p_list : (Nat → Nat → Int32)) (c_n_p_weights : (Nat → Nat → Int32)) (c_n_p_many : (Nat → Int32)) (c_n_p_all : (Nat → Int32)) : Option (Int32 × Int32) :=
  xg (xin x1 2) (if (c_n_p_all (xn x1)) ≤ 0 then (F9_byChance_b50 z (xn x1) (0 : Int32) ((c_chance * (1664525 : Int32)) + (1013904223 : Int32)) c_n_p_list c_n_p_weights c_n_p_many c_n_p_all) else (xg (xnz (c_n_p_all (xn x1))) (F9_byChance_b50 z (xn x1) (((((c_chance * (1664525 : Int32)) + (1013904223 : Int32))).toUInt32 >>> (((8 : Int32)).toUInt32 &&& Int32.toUInt32 31)).toInt32 - ((((c_chance * (1664525 : Int32)) + (1013904223 : Int32))).toUInt32 >>> (((8 : Int32)).toUInt32 &&& Int32.toUInt32 31)).toInt32 / (c_n_p_all (xn x1)) * (c_n_p_all (xn x1))) ((c_chance * (1664525 : Int32)) + (1013904223 : Int32)) c_n_p_list c_n_p_weights c_n_p_many c_n_p_all)))
theorem T9_byChance {X : xX} {z : Nat} {x1 : Int32} {c_chance : Int32} {c_n_p_list : (Nat → Nat → Int32)} {c_n_p_weights : (Nat → Nat → Int32)} {c_n_p_many : (Nat → Int32)} {c_n_p_all : (Nat → Int32)} {c_n_fields : Int32} {c_n_ties : Int32} {c_n_worth : (Nat → Int32)} {c_n_forces : (Nat → Int32)} {c_n_many : (Nat → Int32)} {c_n_codes : (Nat → Nat → Int32)} {c_n_b_list : (Nat → Nat → Int32)} {c_n_b_many : (Nat → Int32)} {c_n_p_drawn : (Nat → Nat → Int32)} {c_n_p_turns : (Nat → Int32)} {c_l_fault : Int32} {c_l_t_bytes : (Nat → Int32)} {c_l_t_many : Int32} {c_l_t_kind : Int32} {c_l_t_from : Int32} {c_l_t_behind : Int32} {c_l_t_end : Int32} {c_l_s_fields : Int32} {c_l_s_ties : Int32} {c_l_s_worth : (Nat → Int32)} {c_l_s_forces : (Nat → Int32)} {c_l_s_many : (Nat → Int32)} {c_l_s_codes : (Nat → Nat → Int32)} {c_l_s_b_list : (Nat → Nat → Int32)} {c_l_s_b_many : (Nat → Int32)} {c_l_s_p_list : (Nat → Nat → Int32)} {c_l_s_p_weights : (Nat → Nat → Int32)} {c_l_s_p_drawn : (Nat → Nat → Int32)} {c_l_s_p_many : (Nat → Int32)} {c_l_s_p_all : (Nat → Int32)} {c_l_s_p_turns : (Nat → Int32)} {c_nt_seen : (Nat → Nat → Int32)} {c_nt_many : (Nat → Int32)} {c_v_kept : (Nat → Nat → Int32)} {c_v_many : (Nat → Int32)} {c_v_turns : Int32} {c_v_stale : Int32} {c_v_goes : (Nat → Nat → Int32)} {c_v_row : (Nat → Int32)} {c_w_all : Int32} {c_w_mass : (Nat → Nat → Int32)} {c_g_picks : (Nat → Nat → Int32)} {c_g_many : (Nat → Int32)} {c_g_table : (Nat → Nat → Int64)} {c_g_rowNames : (Nat → Int32)} {c_g_columnNames : (Nat → Int32)} {c_g_rows : Int32} {c_g_columns : Int32} {c_g_scale : Int64} {v : Int32 × Int32} (hX : xIs (j9_byChance) X ((some .int)) (some (.int v.1)) (hXx v.2 c_n_fields c_n_ties c_n_worth c_n_forces c_n_many c_n_codes c_n_b_list c_n_b_many c_n_p_list c_n_p_weights c_n_p_drawn c_n_p_many c_n_p_all c_n_p_turns c_l_fault c_l_t_bytes c_l_t_many c_l_t_kind c_l_t_from c_l_t_behind c_l_t_end c_l_s_fields c_l_s_ties c_l_s_worth c_l_s_forces c_l_s_many c_l_s_codes c_l_s_b_list c_l_s_b_many c_l_s_p_list c_l_s_p_weights c_l_s_p_drawn c_l_s_p_many c_l_s_p_all c_l_s_p_turns c_nt_seen c_nt_many c_v_kept c_v_many c_v_turns c_v_stale c_v_goes c_v_row c_w_all c_w_mass c_g_picks c_g_many c_g_table c_g_rowNames c_g_columnNames c_g_rows c_g_columns c_g_scale)) (hf : F9_byChance z x1 c_chance c_n_p_list c_n_p_weights c_n_p_many c_n_p_all = some v) : xV (j9_byChance) X 0 0 (hXx c_chance c_n_fields c_n_ties c_n_worth c_n_forces c_n_many c_n_codes c_n_b_list c_n_b_many c_n_p_list c_n_p_weights c_n_p_drawn c_n_p_many c_n_p_all c_n_p_turns c_l_fault c_l_t_bytes c_l_t_many c_l_t_kind c_l_t_from c_l_t_behind c_l_t_end c_l_s_fields c_l_s_ties c_l_s_worth c_l_s_forces c_l_s_many c_l_s_codes c_l_s_b_list c_l_s_b_many c_l_s_p_list c_l_s_p_weights c_l_s_p_drawn c_l_s_p_many c_l_s_p_all c_l_s_p_turns c_nt_seen c_nt_many c_v_kept c_v_many c_v_turns c_v_stale c_v_goes c_v_row c_w_all c_w_mass c_g_picks c_g_many c_g_table c_g_rowNames c_g_columnNames c_g_rows c_g_columns c_g_scale) 0 [(0, .ref 0), (1, .int x1)] [] := by
  unfold F9_byChance at hf
  refine xV_aload_n 1 rfl dX9_byChance_0 rfl 0 rfl ?_
  refine xV_get (v := .ref 1) 4 rfl dX9_byChance_1 f9_12 rfl rfl ?_
  refine xV_get (v := .ref 13) 7 rfl dX9_byChance_4 f9_77 rfl rfl ?_
  refine xV_iload_n 8 rfl dX9_byChance_7 rfl 1 rfl ?_
  obtain ⟨hg8, hf⟩ := xg_s hf
  refine xV_aaload (b := (14 + 4 * (xn x1))) 9 rfl dX9_byChance_8 rfl rfl rfl (xin_ok hg8) (by show ([14, 18] : List Nat)[(xn x1)]? = some (14 + 4 * (xn x1)); have hi := xin_lt hg8; generalize (xn x1) = i at hi ⊢; match i, hi with | 0, _ => rfl | 1, _ => rfl) ?_
  refine xV_astore_n (L' := [(2, .ref (14 + 4 * (xn x1))), (0, .ref 0), (1, .int x1)]) 10 rfl dX9_byChance_9 rfl (xlt rfl) rfl ?_
  refine xV_aload_n 11 rfl dX9_byChance_10 rfl 1 rfl ?_
  refine xV_aload_n 12 rfl dX9_byChance_11 rfl 1 rfl ?_
  refine xV_get (v := .int c_chance) 15 rfl dX9_byChance_12 f9_296 rfl rfl ?_
  refine xV_ldcw 18 rfl dX9_byChance_15 q9_305 ?_
  refine xV_imul 19 rfl dX9_byChance_18 ?_
  refine xV_ldcw 22 rfl dX9_byChance_19 q9_306 ?_
  refine xV_iadd 23 rfl dX9_byChance_22 ?_
  refine xV_put (h' := (hXx ((c_chance * (1664525 : Int32)) + (1013904223 : Int32)) c_n_fields c_n_ties c_n_worth c_n_forces c_n_many c_n_codes c_n_b_list c_n_b_many c_n_p_list c_n_p_weights c_n_p_drawn c_n_p_many c_n_p_all c_n_p_turns c_l_fault c_l_t_bytes c_l_t_many c_l_t_kind c_l_t_from c_l_t_behind c_l_t_end c_l_s_fields c_l_s_ties c_l_s_worth c_l_s_forces c_l_s_many c_l_s_codes c_l_s_b_list c_l_s_b_many c_l_s_p_list c_l_s_p_weights c_l_s_p_drawn c_l_s_p_many c_l_s_p_all c_l_s_p_turns c_nt_seen c_nt_many c_v_kept c_v_many c_v_turns c_v_stale c_v_goes c_v_row c_w_all c_w_mass c_g_picks c_g_many c_g_table c_g_rowNames c_g_columnNames c_g_rows c_g_columns c_g_scale)) 26 rfl dX9_byChance_23 f9_296 rfl nf9_7 (fun _ => rfl) (fun _ => rfl) (Nat.le_of_ble_eq_true rfl) rfl ?_
  refine xV_aload_n 27 rfl dX9_byChance_26 rfl 0 rfl ?_
  refine xV_aload_n 28 rfl dX9_byChance_27 rfl 0 rfl ?_
  refine xV_get (v := .int (c_n_p_all (xn x1))) (fs := [.ref (15 + 4 * (xn x1)), .ref (16 + 4 * (xn x1)), .ref (17 + 4 * (xn x1)), .int (c_n_p_many (xn x1)), .int (c_n_p_all (xn x1)), .int (c_n_p_turns (xn x1))]) 31 rfl dX9_byChance_28 f9_281 (by have hi := (xin_lt hg8); generalize (xn x1) = i at hi ⊢; match i, hi with | 0, _ => exact rfl | 1, _ => exact rfl) rfl ?_
  refine xV_if_le (tgt := 49) 34 rfl dX9_byChance_31 (by decide) (fun h31 => ?_) (fun h31 => ?_)
  · have hf := xif_t hf h31
    refine xV_iconst 50 rfl dX9_byChance_49 xy_i0 ?_
    refine xV_sub [] rfl ?_
    exact T9_byChance_b50 hX hf
  · have hf := xif_f hf h31
    refine xV_aload_n 35 rfl dX9_byChance_34 rfl 1 rfl ?_
    refine xV_get (v := .int ((c_chance * (1664525 : Int32)) + (1013904223 : Int32))) 38 rfl dX9_byChance_35 f9_296 rfl rfl ?_
    refine xV_bipush 40 rfl dX9_byChance_38 xy_b8 ?_
    refine xV_iushr 41 rfl dX9_byChance_40 ?_
    refine xV_aload_n 42 rfl dX9_byChance_41 rfl 0 rfl ?_
    refine xV_get (v := .int (c_n_p_all (xn x1))) (fs := [.ref (15 + 4 * (xn x1)), .ref (16 + 4 * (xn x1)), .ref (17 + 4 * (xn x1)), .int (c_n_p_many (xn x1)), .int (c_n_p_all (xn x1)), .int (c_n_p_turns (xn x1))]) 45 rfl dX9_byChance_42 f9_281 (by have hi := (xin_lt hg8); generalize (xn x1) = i at hi ⊢; match i, hi with | 0, _ => exact rfl | 1, _ => exact rfl) rfl ?_
    obtain ⟨hg45, hf⟩ := xg_s hf
    refine xV_irem 46 rfl dX9_byChance_45 (xnz_ok hg45) ?_
    refine xV_goto (tgt := 50) dX9_byChance_46 (by decide) ?_
    refine xV_sub [] rfl ?_
    exact T9_byChance_b50 hX hf
theorem C9_byChance (l : Launch) {z : Nat} {x1 : Int32} {c_chance : Int32} {c_n_p_list : (Nat → Nat → Int32)} {c_n_p_weights : (Nat → Nat → Int32)} {c_n_p_many : (Nat → Int32)} {c_n_p_all : (Nat → Int32)} {c_n_fields : Int32} {c_n_ties : Int32} {c_n_worth : (Nat → Int32)} {c_n_forces : (Nat → Int32)} {c_n_many : (Nat → Int32)} {c_n_codes : (Nat → Nat → Int32)} {c_n_b_list : (Nat → Nat → Int32)} {c_n_b_many : (Nat → Int32)} {c_n_p_drawn : (Nat → Nat → Int32)} {c_n_p_turns : (Nat → Int32)} {c_l_fault : Int32} {c_l_t_bytes : (Nat → Int32)} {c_l_t_many : Int32} {c_l_t_kind : Int32} {c_l_t_from : Int32} {c_l_t_behind : Int32} {c_l_t_end : Int32} {c_l_s_fields : Int32} {c_l_s_ties : Int32} {c_l_s_worth : (Nat → Int32)} {c_l_s_forces : (Nat → Int32)} {c_l_s_many : (Nat → Int32)} {c_l_s_codes : (Nat → Nat → Int32)} {c_l_s_b_list : (Nat → Nat → Int32)} {c_l_s_b_many : (Nat → Int32)} {c_l_s_p_list : (Nat → Nat → Int32)} {c_l_s_p_weights : (Nat → Nat → Int32)} {c_l_s_p_drawn : (Nat → Nat → Int32)} {c_l_s_p_many : (Nat → Int32)} {c_l_s_p_all : (Nat → Int32)} {c_l_s_p_turns : (Nat → Int32)} {c_nt_seen : (Nat → Nat → Int32)} {c_nt_many : (Nat → Int32)} {c_v_kept : (Nat → Nat → Int32)} {c_v_many : (Nat → Int32)} {c_v_turns : Int32} {c_v_stale : Int32} {c_v_goes : (Nat → Nat → Int32)} {c_v_row : (Nat → Int32)} {c_w_all : Int32} {c_w_mass : (Nat → Nat → Int32)} {c_g_picks : (Nat → Nat → Int32)} {c_g_many : (Nat → Int32)} {c_g_table : (Nat → Nat → Int64)} {c_g_rowNames : (Nat → Int32)} {c_g_columnNames : (Nat → Int32)} {c_g_rows : Int32} {c_g_columns : Int32} {c_g_scale : Int64} {v : Int32 × Int32} (hf : F9_byChance z x1 c_chance c_n_p_list c_n_p_weights c_n_p_many c_n_p_all = some v) : xCt l yX9_byChance ((some .int)) j9_byChance [.ref 0, .int x1] (hXx c_chance c_n_fields c_n_ties c_n_worth c_n_forces c_n_many c_n_codes c_n_b_list c_n_b_many c_n_p_list c_n_p_weights c_n_p_drawn c_n_p_many c_n_p_all c_n_p_turns c_l_fault c_l_t_bytes c_l_t_many c_l_t_kind c_l_t_from c_l_t_behind c_l_t_end c_l_s_fields c_l_s_ties c_l_s_worth c_l_s_forces c_l_s_many c_l_s_codes c_l_s_b_list c_l_s_b_many c_l_s_p_list c_l_s_p_weights c_l_s_p_drawn c_l_s_p_many c_l_s_p_all c_l_s_p_turns c_nt_seen c_nt_many c_v_kept c_v_many c_v_turns c_v_stale c_v_goes c_v_row c_w_all c_w_mass c_g_picks c_g_many c_g_table c_g_rowNames c_g_columnNames c_g_rows c_g_columns c_g_scale) (some (.int v.1)) (hXx v.2 c_n_fields c_n_ties c_n_worth c_n_forces c_n_many c_n_codes c_n_b_list c_n_b_many c_n_p_list c_n_p_weights c_n_p_drawn c_n_p_many c_n_p_all c_n_p_turns c_l_fault c_l_t_bytes c_l_t_many c_l_t_kind c_l_t_from c_l_t_behind c_l_t_end c_l_s_fields c_l_s_ties c_l_s_worth c_l_s_forces c_l_s_many c_l_s_codes c_l_s_b_list c_l_s_b_many c_l_s_p_list c_l_s_p_weights c_l_s_p_drawn c_l_s_p_many c_l_s_p_all c_l_s_p_turns c_nt_seen c_nt_many c_v_kept c_v_many c_v_turns c_v_stale c_v_goes c_v_row c_w_all c_w_mass c_g_picks c_g_many c_g_table c_g_rowNames c_g_columnNames c_g_rows c_g_columns c_g_scale) := xCt_of (by decide) rfl (Nat.le_of_ble_eq_true rfl) (fun _ hX => T9_byChance hX hf)
theorem m9_byChance : xMd yX9_byChance RX9 ((some .int)) j9_byChance 1 := ⟨List.mem_of_getElem? (i := 1216) (by decide +kernel), List.mem_of_getElem? (i := 2) (by decide +kernel), rfl, by decide +kernel⟩
theorem v9_byChance : xMv yX9_byChance RX9 := ⟨List.mem_of_getElem? (i := 1214) (by decide +kernel), List.mem_of_getElem? (i := 1215) (by decide +kernel)⟩
theorem k9_299 : Cond.methodLink RX9 299 yX3_byTurns ∈ wsL_law0 := List.mem_of_getElem? (i := 1205) (by decide +kernel)
theorem k9_302 : Cond.methodLink RX9 302 yX9_byChance ∈ wsL_law0 := List.mem_of_getElem? (i := 1213) (by decide +kernel)
theorem dX9_draw_0 : decode cX9_draw 0 = .ok (.aload_n 0, 1) := by decide +kernel
theorem dX9_draw_1 : decode cX9_draw 1 = .ok (.iload_n 1, 1) := by decide +kernel
theorem dX9_draw_2 : decode cX9_draw 2 = .ok (.invokevirtual 266, 3) := by decide +kernel
theorem dX9_draw_5 : decode cX9_draw 5 = .ok (.ifCond .ne 5, 3) := by decide +kernel
theorem dX9_draw_8 : decode cX9_draw 8 = .ok (.iconst (-1), 1) := by decide +kernel
theorem dX9_draw_9 : decode cX9_draw 9 = .ok (.ireturn, 1) := by decide +kernel
theorem dX9_draw_10 : decode cX9_draw 10 = .ok (.iload_n 2, 1) := by decide +kernel
theorem dX9_draw_11 : decode cX9_draw 11 = .ok (.ifCond .eq 18, 3) := by decide +kernel
theorem dX9_draw_14 : decode cX9_draw 14 = .ok (.aload_n 0, 1) := by decide +kernel
theorem dX9_draw_15 : decode cX9_draw 15 = .ok (.getfield 12, 3) := by decide +kernel
theorem dX9_draw_18 : decode cX9_draw 18 = .ok (.getfield 77, 3) := by decide +kernel
theorem dX9_draw_21 : decode cX9_draw 21 = .ok (.iload_n 1, 1) := by decide +kernel
theorem dX9_draw_22 : decode cX9_draw 22 = .ok (.aaload, 1) := by decide +kernel
theorem dX9_draw_23 : decode cX9_draw 23 = .ok (.invokevirtual 299, 3) := by decide +kernel
theorem dX9_draw_26 : decode cX9_draw 26 = .ok (.goto 8, 3) := by decide +kernel
theorem dX9_draw_29 : decode cX9_draw 29 = .ok (.aload_n 0, 1) := by decide +kernel
theorem dX9_draw_30 : decode cX9_draw 30 = .ok (.iload_n 1, 1) := by decide +kernel
theorem dX9_draw_31 : decode cX9_draw 31 = .ok (.invokevirtual 302, 3) := by decide +kernel
theorem dX9_draw_34 : decode cX9_draw 34 = .ok (.ireturn, 1) := by decide +kernel
abbrev j9_draw : xJ := (cX9_draw, 3, RX9, 3, 0, 0)
def F9_draw (z : Nat) (x1 : Int32) (x2 : Int32) (c_chance : Int32) (c_n_p_list : (Nat → Nat → Int32)) (c_n_p_weights : (Nat → Nat → Int32)) (c_n_p_drawn : (Nat → Nat → Int32)) (c_n_p_many : (Nat → Int32)) (c_n_p_all : (Nat → Int32)) (c_n_p_turns : (Nat → Int32)) : Option (Int32 × Int32 × (Nat → Nat → Int32) × (Nat → Int32)) :=
  (F9_hasPlan x1 c_n_p_many).bind (fun v2 => if v2 = 0 then (some ((-1 : Int32), c_chance, c_n_p_drawn, c_n_p_turns)) else (if x2 = 0 then ((F9_byChance z x1 c_chance c_n_p_list c_n_p_weights c_n_p_many c_n_p_all).bind (fun v31 => some (v31.1, v31.2, c_n_p_drawn, c_n_p_turns))) else (xg (xin x1 2) ((F3_byTurns z (c_n_p_list (xn x1)) (c_n_p_weights (xn x1)) (c_n_p_drawn (xn x1)) (c_n_p_many (xn x1)) (c_n_p_all (xn x1)) (c_n_p_turns (xn x1))).bind (fun v23 => some (v23.1, c_chance, (va_up c_n_p_drawn (xn x1) v23.2.1), (va_up c_n_p_turns (xn x1) v23.2.2)))))))
theorem T9_draw {X : xX} {z : Nat} {x1 : Int32} {x2 : Int32} {c_chance : Int32} {c_n_p_list : (Nat → Nat → Int32)} {c_n_p_weights : (Nat → Nat → Int32)} {c_n_p_drawn : (Nat → Nat → Int32)} {c_n_p_many : (Nat → Int32)} {c_n_p_all : (Nat → Int32)} {c_n_p_turns : (Nat → Int32)} {c_n_fields : Int32} {c_n_ties : Int32} {c_n_worth : (Nat → Int32)} {c_n_forces : (Nat → Int32)} {c_n_many : (Nat → Int32)} {c_n_codes : (Nat → Nat → Int32)} {c_n_b_list : (Nat → Nat → Int32)} {c_n_b_many : (Nat → Int32)} {c_l_fault : Int32} {c_l_t_bytes : (Nat → Int32)} {c_l_t_many : Int32} {c_l_t_kind : Int32} {c_l_t_from : Int32} {c_l_t_behind : Int32} {c_l_t_end : Int32} {c_l_s_fields : Int32} {c_l_s_ties : Int32} {c_l_s_worth : (Nat → Int32)} {c_l_s_forces : (Nat → Int32)} {c_l_s_many : (Nat → Int32)} {c_l_s_codes : (Nat → Nat → Int32)} {c_l_s_b_list : (Nat → Nat → Int32)} {c_l_s_b_many : (Nat → Int32)} {c_l_s_p_list : (Nat → Nat → Int32)} {c_l_s_p_weights : (Nat → Nat → Int32)} {c_l_s_p_drawn : (Nat → Nat → Int32)} {c_l_s_p_many : (Nat → Int32)} {c_l_s_p_all : (Nat → Int32)} {c_l_s_p_turns : (Nat → Int32)} {c_nt_seen : (Nat → Nat → Int32)} {c_nt_many : (Nat → Int32)} {c_v_kept : (Nat → Nat → Int32)} {c_v_many : (Nat → Int32)} {c_v_turns : Int32} {c_v_stale : Int32} {c_v_goes : (Nat → Nat → Int32)} {c_v_row : (Nat → Int32)} {c_w_all : Int32} {c_w_mass : (Nat → Nat → Int32)} {c_g_picks : (Nat → Nat → Int32)} {c_g_many : (Nat → Int32)} {c_g_table : (Nat → Nat → Int64)} {c_g_rowNames : (Nat → Int32)} {c_g_columnNames : (Nat → Int32)} {c_g_rows : Int32} {c_g_columns : Int32} {c_g_scale : Int64} {v : Int32 × Int32 × (Nat → Nat → Int32) × (Nat → Int32)} (hX : xIs (j9_draw) X ((some .int)) (some (.int v.1)) (hXx v.2.1 c_n_fields c_n_ties c_n_worth c_n_forces c_n_many c_n_codes c_n_b_list c_n_b_many c_n_p_list c_n_p_weights v.2.2.1 c_n_p_many c_n_p_all v.2.2.2 c_l_fault c_l_t_bytes c_l_t_many c_l_t_kind c_l_t_from c_l_t_behind c_l_t_end c_l_s_fields c_l_s_ties c_l_s_worth c_l_s_forces c_l_s_many c_l_s_codes c_l_s_b_list c_l_s_b_many c_l_s_p_list c_l_s_p_weights c_l_s_p_drawn c_l_s_p_many c_l_s_p_all c_l_s_p_turns c_nt_seen c_nt_many c_v_kept c_v_many c_v_turns c_v_stale c_v_goes c_v_row c_w_all c_w_mass c_g_picks c_g_many c_g_table c_g_rowNames c_g_columnNames c_g_rows c_g_columns c_g_scale)) (hf : F9_draw z x1 x2 c_chance c_n_p_list c_n_p_weights c_n_p_drawn c_n_p_many c_n_p_all c_n_p_turns = some v) : xV (j9_draw) X 0 0 (hXx c_chance c_n_fields c_n_ties c_n_worth c_n_forces c_n_many c_n_codes c_n_b_list c_n_b_many c_n_p_list c_n_p_weights c_n_p_drawn c_n_p_many c_n_p_all c_n_p_turns c_l_fault c_l_t_bytes c_l_t_many c_l_t_kind c_l_t_from c_l_t_behind c_l_t_end c_l_s_fields c_l_s_ties c_l_s_worth c_l_s_forces c_l_s_many c_l_s_codes c_l_s_b_list c_l_s_b_many c_l_s_p_list c_l_s_p_weights c_l_s_p_drawn c_l_s_p_many c_l_s_p_all c_l_s_p_turns c_nt_seen c_nt_many c_v_kept c_v_many c_v_turns c_v_stale c_v_goes c_v_row c_w_all c_w_mass c_g_picks c_g_many c_g_table c_g_rowNames c_g_columnNames c_g_rows c_g_columns c_g_scale) 0 [(0, .ref 0), (1, .int x1), (2, .int x2)] [] := by
  unfold F9_draw at hf
  refine xV_aload_n 1 rfl dX9_draw_0 rfl 0 rfl ?_
  refine xV_iload_n 2 rfl dX9_draw_1 rfl 1 rfl ?_
  obtain ⟨v2, hv2, hf⟩ := xb_s hf
  refine xV_same (rest := []) 5 rfl dX9_draw_2 rfl (C9_hasPlan X.1.2.1 hv2) m9_hasPlan v9_hasPlan k9_266 rfl rfl rfl rfl rfl (Nat.le_of_ble_eq_true rfl) (Nat.le_of_ble_eq_true rfl) (Nat.le_of_ble_eq_true rfl) ⟨Nat.le_refl _, Nat.le_refl _⟩ ?_
  show xV (j9_draw) X 0 0 (hXx c_chance c_n_fields c_n_ties c_n_worth c_n_forces c_n_many c_n_codes c_n_b_list c_n_b_many c_n_p_list c_n_p_weights c_n_p_drawn c_n_p_many c_n_p_all c_n_p_turns c_l_fault c_l_t_bytes c_l_t_many c_l_t_kind c_l_t_from c_l_t_behind c_l_t_end c_l_s_fields c_l_s_ties c_l_s_worth c_l_s_forces c_l_s_many c_l_s_codes c_l_s_b_list c_l_s_b_many c_l_s_p_list c_l_s_p_weights c_l_s_p_drawn c_l_s_p_many c_l_s_p_all c_l_s_p_turns c_nt_seen c_nt_many c_v_kept c_v_many c_v_turns c_v_stale c_v_goes c_v_row c_w_all c_w_mass c_g_picks c_g_many c_g_table c_g_rowNames c_g_columnNames c_g_rows c_g_columns c_g_scale) 5 [(0, .ref 0), (1, .int x1), (2, .int x2)] [.int v2]
  refine xV_if_ne (tgt := 10) 8 rfl dX9_draw_5 (by decide) (fun h5 => ?_) (fun h5 => ?_)
  · have hf := xif_f hf h5
    refine xV_iload_n 11 rfl dX9_draw_10 rfl 2 rfl ?_
    refine xV_if_eq (tgt := 29) 14 rfl dX9_draw_11 (by decide) (fun h11 => ?_) (fun h11 => ?_)
    · have hf := xif_t hf h11
      refine xV_aload_n 30 rfl dX9_draw_29 rfl 0 rfl ?_
      refine xV_iload_n 31 rfl dX9_draw_30 rfl 1 rfl ?_
      obtain ⟨v31, hv31, hf⟩ := xb_s hf
      refine xV_same (rest := []) 34 rfl dX9_draw_31 rfl (C9_byChance X.1.2.1 hv31) m9_byChance v9_byChance k9_302 rfl rfl rfl rfl rfl (Nat.le_of_ble_eq_true rfl) (Nat.le_of_ble_eq_true rfl) (Nat.le_of_ble_eq_true rfl) ⟨Nat.le_refl _, Nat.le_refl _⟩ ?_
      show xV (j9_draw) X 0 0 (hXx v31.2 c_n_fields c_n_ties c_n_worth c_n_forces c_n_many c_n_codes c_n_b_list c_n_b_many c_n_p_list c_n_p_weights c_n_p_drawn c_n_p_many c_n_p_all c_n_p_turns c_l_fault c_l_t_bytes c_l_t_many c_l_t_kind c_l_t_from c_l_t_behind c_l_t_end c_l_s_fields c_l_s_ties c_l_s_worth c_l_s_forces c_l_s_many c_l_s_codes c_l_s_b_list c_l_s_b_many c_l_s_p_list c_l_s_p_weights c_l_s_p_drawn c_l_s_p_many c_l_s_p_all c_l_s_p_turns c_nt_seen c_nt_many c_v_kept c_v_many c_v_turns c_v_stale c_v_goes c_v_row c_w_all c_w_mass c_g_picks c_g_many c_g_table c_g_rowNames c_g_columnNames c_g_rows c_g_columns c_g_scale) 34 [(0, .ref 0), (1, .int x1), (2, .int x2)] [.int v31.1]
      obtain rfl := Option.some.inj hf
      exact xV_iret hX dX9_draw_34 rfl (Nat.zero_le _) (Nat.zero_le _)
    · have hf := xif_f hf h11
      refine xV_aload_n 15 rfl dX9_draw_14 rfl 0 rfl ?_
      refine xV_get (v := .ref 1) 18 rfl dX9_draw_15 f9_12 rfl rfl ?_
      refine xV_get (v := .ref 13) 21 rfl dX9_draw_18 f9_77 rfl rfl ?_
      refine xV_iload_n 22 rfl dX9_draw_21 rfl 1 rfl ?_
      obtain ⟨hg22, hf⟩ := xg_s hf
      refine xV_aaload (b := (14 + 4 * (xn x1))) 23 rfl dX9_draw_22 rfl rfl rfl (xin_ok hg22) (by show ([14, 18] : List Nat)[(xn x1)]? = some (14 + 4 * (xn x1)); have hi := xin_lt hg22; generalize (xn x1) = i at hi ⊢; match i, hi with | 0, _ => rfl | 1, _ => rfl) ?_
      obtain ⟨v23, hv23, hf⟩ := xb_s hf
      refine xV_vir2 (g := (fun j => (14 + 4 * (xn x1)) + j)) (hl := (hP (c_n_p_list (xn x1)) (c_n_p_weights (xn x1)) (c_n_p_drawn (xn x1)) (c_n_p_many (xn x1)) (c_n_p_all (xn x1)) (c_n_p_turns (xn x1)))) (hl' := (hP (c_n_p_list (xn x1)) (c_n_p_weights (xn x1)) v23.2.1 (c_n_p_many (xn x1)) (c_n_p_all (xn x1)) v23.2.2)) (h' := (hXx c_chance c_n_fields c_n_ties c_n_worth c_n_forces c_n_many c_n_codes c_n_b_list c_n_b_many c_n_p_list c_n_p_weights (va_up c_n_p_drawn (xn x1) v23.2.1) c_n_p_many c_n_p_all (va_up c_n_p_turns (xn x1) v23.2.2) c_l_fault c_l_t_bytes c_l_t_many c_l_t_kind c_l_t_from c_l_t_behind c_l_t_end c_l_s_fields c_l_s_ties c_l_s_worth c_l_s_forces c_l_s_many c_l_s_codes c_l_s_b_list c_l_s_b_many c_l_s_p_list c_l_s_p_weights c_l_s_p_drawn c_l_s_p_many c_l_s_p_all c_l_s_p_turns c_nt_seen c_nt_many c_v_kept c_v_many c_v_turns c_v_stale c_v_goes c_v_row c_w_all c_w_mass c_g_picks c_g_many c_g_table c_g_rowNames c_g_columnNames c_g_rows c_g_columns c_g_scale)) (rest := []) (ci := 3) 26 rfl dX9_draw_23 rfl (C3_byTurns X.1.2.1 hv23) m3_byTurns v3_byTurns k9_299 rfl rfl rfl (e_Xx_P_F2 (xin_lt hg22) (xup_same _ _) (xup_same _ _) rfl (xup_same _ _) (xup_same _ _) rfl) rfl (Nat.le_of_ble_eq_true rfl) (Nat.le_of_ble_eq_true rfl) (Nat.le_of_ble_eq_true rfl) ⟨Nat.le_refl _, Nat.le_refl _⟩ ?_
      show xV (j9_draw) X 0 0 (hXx c_chance c_n_fields c_n_ties c_n_worth c_n_forces c_n_many c_n_codes c_n_b_list c_n_b_many c_n_p_list c_n_p_weights (va_up c_n_p_drawn (xn x1) v23.2.1) c_n_p_many c_n_p_all (va_up c_n_p_turns (xn x1) v23.2.2) c_l_fault c_l_t_bytes c_l_t_many c_l_t_kind c_l_t_from c_l_t_behind c_l_t_end c_l_s_fields c_l_s_ties c_l_s_worth c_l_s_forces c_l_s_many c_l_s_codes c_l_s_b_list c_l_s_b_many c_l_s_p_list c_l_s_p_weights c_l_s_p_drawn c_l_s_p_many c_l_s_p_all c_l_s_p_turns c_nt_seen c_nt_many c_v_kept c_v_many c_v_turns c_v_stale c_v_goes c_v_row c_w_all c_w_mass c_g_picks c_g_many c_g_table c_g_rowNames c_g_columnNames c_g_rows c_g_columns c_g_scale) 26 [(0, .ref 0), (1, .int x1), (2, .int x2)] [.int v23.1]
      refine xV_goto (tgt := 34) dX9_draw_26 (by decide) ?_
      obtain rfl := Option.some.inj hf
      exact xV_iret hX dX9_draw_34 rfl (Nat.zero_le _) (Nat.zero_le _)
  · have hf := xif_t hf h5
    refine xV_iconst 9 rfl dX9_draw_8 xy_im1 ?_
    obtain rfl := Option.some.inj hf
    exact xV_iret hX dX9_draw_9 rfl (Nat.zero_le _) (Nat.zero_le _)
theorem C9_draw (l : Launch) {z : Nat} {x1 : Int32} {x2 : Int32} {c_chance : Int32} {c_n_p_list : (Nat → Nat → Int32)} {c_n_p_weights : (Nat → Nat → Int32)} {c_n_p_drawn : (Nat → Nat → Int32)} {c_n_p_many : (Nat → Int32)} {c_n_p_all : (Nat → Int32)} {c_n_p_turns : (Nat → Int32)} {c_n_fields : Int32} {c_n_ties : Int32} {c_n_worth : (Nat → Int32)} {c_n_forces : (Nat → Int32)} {c_n_many : (Nat → Int32)} {c_n_codes : (Nat → Nat → Int32)} {c_n_b_list : (Nat → Nat → Int32)} {c_n_b_many : (Nat → Int32)} {c_l_fault : Int32} {c_l_t_bytes : (Nat → Int32)} {c_l_t_many : Int32} {c_l_t_kind : Int32} {c_l_t_from : Int32} {c_l_t_behind : Int32} {c_l_t_end : Int32} {c_l_s_fields : Int32} {c_l_s_ties : Int32} {c_l_s_worth : (Nat → Int32)} {c_l_s_forces : (Nat → Int32)} {c_l_s_many : (Nat → Int32)} {c_l_s_codes : (Nat → Nat → Int32)} {c_l_s_b_list : (Nat → Nat → Int32)} {c_l_s_b_many : (Nat → Int32)} {c_l_s_p_list : (Nat → Nat → Int32)} {c_l_s_p_weights : (Nat → Nat → Int32)} {c_l_s_p_drawn : (Nat → Nat → Int32)} {c_l_s_p_many : (Nat → Int32)} {c_l_s_p_all : (Nat → Int32)} {c_l_s_p_turns : (Nat → Int32)} {c_nt_seen : (Nat → Nat → Int32)} {c_nt_many : (Nat → Int32)} {c_v_kept : (Nat → Nat → Int32)} {c_v_many : (Nat → Int32)} {c_v_turns : Int32} {c_v_stale : Int32} {c_v_goes : (Nat → Nat → Int32)} {c_v_row : (Nat → Int32)} {c_w_all : Int32} {c_w_mass : (Nat → Nat → Int32)} {c_g_picks : (Nat → Nat → Int32)} {c_g_many : (Nat → Int32)} {c_g_table : (Nat → Nat → Int64)} {c_g_rowNames : (Nat → Int32)} {c_g_columnNames : (Nat → Int32)} {c_g_rows : Int32} {c_g_columns : Int32} {c_g_scale : Int64} {v : Int32 × Int32 × (Nat → Nat → Int32) × (Nat → Int32)} (hf : F9_draw z x1 x2 c_chance c_n_p_list c_n_p_weights c_n_p_drawn c_n_p_many c_n_p_all c_n_p_turns = some v) : xCt l yX9_draw ((some .int)) j9_draw [.ref 0, .int x1, .int x2] (hXx c_chance c_n_fields c_n_ties c_n_worth c_n_forces c_n_many c_n_codes c_n_b_list c_n_b_many c_n_p_list c_n_p_weights c_n_p_drawn c_n_p_many c_n_p_all c_n_p_turns c_l_fault c_l_t_bytes c_l_t_many c_l_t_kind c_l_t_from c_l_t_behind c_l_t_end c_l_s_fields c_l_s_ties c_l_s_worth c_l_s_forces c_l_s_many c_l_s_codes c_l_s_b_list c_l_s_b_many c_l_s_p_list c_l_s_p_weights c_l_s_p_drawn c_l_s_p_many c_l_s_p_all c_l_s_p_turns c_nt_seen c_nt_many c_v_kept c_v_many c_v_turns c_v_stale c_v_goes c_v_row c_w_all c_w_mass c_g_picks c_g_many c_g_table c_g_rowNames c_g_columnNames c_g_rows c_g_columns c_g_scale) (some (.int v.1)) (hXx v.2.1 c_n_fields c_n_ties c_n_worth c_n_forces c_n_many c_n_codes c_n_b_list c_n_b_many c_n_p_list c_n_p_weights v.2.2.1 c_n_p_many c_n_p_all v.2.2.2 c_l_fault c_l_t_bytes c_l_t_many c_l_t_kind c_l_t_from c_l_t_behind c_l_t_end c_l_s_fields c_l_s_ties c_l_s_worth c_l_s_forces c_l_s_many c_l_s_codes c_l_s_b_list c_l_s_b_many c_l_s_p_list c_l_s_p_weights c_l_s_p_drawn c_l_s_p_many c_l_s_p_all c_l_s_p_turns c_nt_seen c_nt_many c_v_kept c_v_many c_v_turns c_v_stale c_v_goes c_v_row c_w_all c_w_mass c_g_picks c_g_many c_g_table c_g_rowNames c_g_columnNames c_g_rows c_g_columns c_g_scale) := xCt_of (by decide) rfl (Nat.le_of_ble_eq_true rfl) (fun _ hX => T9_draw hX hf)
theorem m9_draw : xMd yX9_draw RX9 ((some .int)) j9_draw 2 := ⟨List.mem_of_getElem? (i := 1204) (by decide +kernel), List.mem_of_getElem? (i := 2) (by decide +kernel), rfl, by decide +kernel⟩
theorem v9_draw : xMv yX9_draw RX9 := ⟨List.mem_of_getElem? (i := 1202) (by decide +kernel), List.mem_of_getElem? (i := 1203) (by decide +kernel)⟩
theorem xy_sm10000 : (Int16.ofInt (-10000)).toInt32 = (-10000 : Int32) := by decide
theorem dX9_match_0 : decode cX9_match 0 = .ok (.iload_n 1, 1) := by decide +kernel
theorem dX9_match_1 : decode cX9_match 1 = .ok (.iconst 1, 1) := by decide +kernel
theorem dX9_match_2 : decode cX9_match 2 = .ok (.if_icmp .lt 26, 3) := by decide +kernel
theorem dX9_match_5 : decode cX9_match 5 = .ok (.iload_n 1, 1) := by decide +kernel
theorem dX9_match_6 : decode cX9_match 6 = .ok (.sipush 200, 3) := by decide +kernel
theorem dX9_match_9 : decode cX9_match 9 = .ok (.if_icmp .gt 19, 3) := by decide +kernel
theorem dX9_match_12 : decode cX9_match 12 = .ok (.aload_n 0, 1) := by decide +kernel
theorem dX9_match_13 : decode cX9_match 13 = .ok (.iconst 0, 1) := by decide +kernel
theorem dX9_match_14 : decode cX9_match 14 = .ok (.invokevirtual 266, 3) := by decide +kernel
theorem dX9_match_17 : decode cX9_match 17 = .ok (.ifCond .eq 11, 3) := by decide +kernel
theorem dX9_match_20 : decode cX9_match 20 = .ok (.aload_n 0, 1) := by decide +kernel
theorem dX9_match_21 : decode cX9_match 21 = .ok (.iconst 1, 1) := by decide +kernel
theorem dX9_match_22 : decode cX9_match 22 = .ok (.invokevirtual 266, 3) := by decide +kernel
theorem dX9_match_25 : decode cX9_match 25 = .ok (.ifCond .ne 7, 3) := by decide +kernel
theorem dX9_match_28 : decode cX9_match 28 = .ok (.sipush (-10000), 3) := by decide +kernel
theorem dX9_match_31 : decode cX9_match 31 = .ok (.ireturn, 1) := by decide +kernel
theorem dX9_match_32 : decode cX9_match 32 = .ok (.iconst 0, 1) := by decide +kernel
theorem dX9_match_33 : decode cX9_match 33 = .ok (.istore_n 2, 1) := by decide +kernel
theorem dX9_match_34 : decode cX9_match 34 = .ok (.iconst 0, 1) := by decide +kernel
theorem dX9_match_35 : decode cX9_match 35 = .ok (.istore_n 3, 1) := by decide +kernel
theorem dX9_match_36 : decode cX9_match 36 = .ok (.iload_n 3, 1) := by decide +kernel
theorem dX9_match_37 : decode cX9_match 37 = .ok (.iload_n 1, 1) := by decide +kernel
theorem dX9_match_38 : decode cX9_match 38 = .ok (.if_icmp .ge 38, 3) := by decide +kernel
theorem dX9_match_41 : decode cX9_match 41 = .ok (.aload_n 0, 1) := by decide +kernel
theorem dX9_match_42 : decode cX9_match 42 = .ok (.iconst 0, 1) := by decide +kernel
theorem dX9_match_43 : decode cX9_match 43 = .ok (.invokevirtual 302, 3) := by decide +kernel
theorem dX9_match_46 : decode cX9_match 46 = .ok (.istore 4, 2) := by decide +kernel
theorem dX9_match_48 : decode cX9_match 48 = .ok (.aload_n 0, 1) := by decide +kernel
theorem dX9_match_49 : decode cX9_match 49 = .ok (.iconst 1, 1) := by decide +kernel
theorem dX9_match_50 : decode cX9_match 50 = .ok (.invokevirtual 302, 3) := by decide +kernel
theorem dX9_match_53 : decode cX9_match 53 = .ok (.istore 5, 2) := by decide +kernel
theorem dX9_match_55 : decode cX9_match 55 = .ok (.iload_n 2, 1) := by decide +kernel
theorem dX9_match_56 : decode cX9_match 56 = .ok (.aload_n 0, 1) := by decide +kernel
theorem dX9_match_57 : decode cX9_match 57 = .ok (.getfield 12, 3) := by decide +kernel
theorem dX9_match_60 : decode cX9_match 60 = .ok (.iconst 0, 1) := by decide +kernel
theorem dX9_match_61 : decode cX9_match 61 = .ok (.iload 4, 2) := by decide +kernel
theorem dX9_match_63 : decode cX9_match 63 = .ok (.iload 5, 2) := by decide +kernel
theorem dX9_match_65 : decode cX9_match 65 = .ok (.invokevirtual 144, 3) := by decide +kernel
theorem dX9_match_68 : decode cX9_match 68 = .ok (.iadd, 1) := by decide +kernel
theorem dX9_match_69 : decode cX9_match 69 = .ok (.istore_n 2, 1) := by decide +kernel
theorem dX9_match_70 : decode cX9_match 70 = .ok (.iinc 3 1, 3) := by decide +kernel
theorem dX9_match_73 : decode cX9_match 73 = .ok (.goto (-37), 3) := by decide +kernel
theorem dX9_match_76 : decode cX9_match 76 = .ok (.iload_n 2, 1) := by decide +kernel
theorem dX9_match_77 : decode cX9_match 77 = .ok (.ireturn, 1) := by decide +kernel
abbrev j9_match : xJ := (cX9_match, 6, RX9, 3, 0, 0)
def F9_match_b36 (z : Nat) (w : Nat) (x1 : Int32) (x2 : Int32) (x3 : Int32) (c_chance : Int32) (c_n_fields : Int32) (c_n_ties : Int32) (c_n_worth : (Nat → Int32)) (c_n_codes : (Nat → Nat → Int32)) (c_n_p_list : (Nat → Nat → Int32)) (c_n_p_weights : (Nat → Nat → Int32)) (c_n_p_many : (Nat → Int32)) (c_n_p_all : (Nat → Int32)) : Option (Int32 × Int32) := match w with
  | 0 => none
  | w + 1 => if x1 ≤ x3 then (some (x2, c_chance)) else ((F9_byChance z (0 : Int32) c_chance c_n_p_list c_n_p_weights c_n_p_many c_n_p_all).bind (fun v43 => (F9_byChance z (1 : Int32) v43.2 c_n_p_list c_n_p_weights c_n_p_many c_n_p_all).bind (fun v50 => (F4_gainFor z (0 : Int32) v43.1 v50.1 c_n_fields c_n_ties c_n_worth c_n_codes).bind (fun v65 => F9_match_b36 z w x1 (x2 + v65) (x3 + (1 : Int32)) v50.2 c_n_fields c_n_ties c_n_worth c_n_codes c_n_p_list c_n_p_weights c_n_p_many c_n_p_all))))
theorem T9_match_b36 {X : xX} {c_n_fields : Int32} {c_n_ties : Int32} {c_n_worth : (Nat → Int32)} {c_n_forces : (Nat → Int32)} {c_n_many : (Nat → Int32)} {c_n_codes : (Nat → Nat → Int32)} {c_n_b_list : (Nat → Nat → Int32)} {c_n_b_many : (Nat → Int32)} {c_n_p_list : (Nat → Nat → Int32)} {c_n_p_weights : (Nat → Nat → Int32)} {c_n_p_drawn : (Nat → Nat → Int32)} {c_n_p_many : (Nat → Int32)} {c_n_p_all : (Nat → Int32)} {c_n_p_turns : (Nat → Int32)} {c_l_fault : Int32} {c_l_t_bytes : (Nat → Int32)} {c_l_t_many : Int32} {c_l_t_kind : Int32} {c_l_t_from : Int32} {c_l_t_behind : Int32} {c_l_t_end : Int32} {c_l_s_fields : Int32} {c_l_s_ties : Int32} {c_l_s_worth : (Nat → Int32)} {c_l_s_forces : (Nat → Int32)} {c_l_s_many : (Nat → Int32)} {c_l_s_codes : (Nat → Nat → Int32)} {c_l_s_b_list : (Nat → Nat → Int32)} {c_l_s_b_many : (Nat → Int32)} {c_l_s_p_list : (Nat → Nat → Int32)} {c_l_s_p_weights : (Nat → Nat → Int32)} {c_l_s_p_drawn : (Nat → Nat → Int32)} {c_l_s_p_many : (Nat → Int32)} {c_l_s_p_all : (Nat → Int32)} {c_l_s_p_turns : (Nat → Int32)} {c_nt_seen : (Nat → Nat → Int32)} {c_nt_many : (Nat → Int32)} {c_v_kept : (Nat → Nat → Int32)} {c_v_many : (Nat → Int32)} {c_v_turns : Int32} {c_v_stale : Int32} {c_v_goes : (Nat → Nat → Int32)} {c_v_row : (Nat → Int32)} {c_w_all : Int32} {c_w_mass : (Nat → Nat → Int32)} {c_g_picks : (Nat → Nat → Int32)} {c_g_many : (Nat → Int32)} {c_g_table : (Nat → Nat → Int64)} {c_g_rowNames : (Nat → Int32)} {c_g_columnNames : (Nat → Int32)} {c_g_rows : Int32} {c_g_columns : Int32} {c_g_scale : Int64} {z : Nat} {v : Int32 × Int32} (hX : xIs (j9_match) X ((some .int)) (some (.int v.1)) (hXx v.2 c_n_fields c_n_ties c_n_worth c_n_forces c_n_many c_n_codes c_n_b_list c_n_b_many c_n_p_list c_n_p_weights c_n_p_drawn c_n_p_many c_n_p_all c_n_p_turns c_l_fault c_l_t_bytes c_l_t_many c_l_t_kind c_l_t_from c_l_t_behind c_l_t_end c_l_s_fields c_l_s_ties c_l_s_worth c_l_s_forces c_l_s_many c_l_s_codes c_l_s_b_list c_l_s_b_many c_l_s_p_list c_l_s_p_weights c_l_s_p_drawn c_l_s_p_many c_l_s_p_all c_l_s_p_turns c_nt_seen c_nt_many c_v_kept c_v_many c_v_turns c_v_stale c_v_goes c_v_row c_w_all c_w_mass c_g_picks c_g_many c_g_table c_g_rowNames c_g_columnNames c_g_rows c_g_columns c_g_scale)) : ∀ (w : Nat) {x1 : Int32} {x2 : Int32} {x3 : Int32} {c_chance : Int32}, F9_match_b36 z w x1 x2 x3 c_chance c_n_fields c_n_ties c_n_worth c_n_codes c_n_p_list c_n_p_weights c_n_p_many c_n_p_all = some v → xV (j9_match) X 0 0 (hXx c_chance c_n_fields c_n_ties c_n_worth c_n_forces c_n_many c_n_codes c_n_b_list c_n_b_many c_n_p_list c_n_p_weights c_n_p_drawn c_n_p_many c_n_p_all c_n_p_turns c_l_fault c_l_t_bytes c_l_t_many c_l_t_kind c_l_t_from c_l_t_behind c_l_t_end c_l_s_fields c_l_s_ties c_l_s_worth c_l_s_forces c_l_s_many c_l_s_codes c_l_s_b_list c_l_s_b_many c_l_s_p_list c_l_s_p_weights c_l_s_p_drawn c_l_s_p_many c_l_s_p_all c_l_s_p_turns c_nt_seen c_nt_many c_v_kept c_v_many c_v_turns c_v_stale c_v_goes c_v_row c_w_all c_w_mass c_g_picks c_g_many c_g_table c_g_rowNames c_g_columnNames c_g_rows c_g_columns c_g_scale) 36 [(0, .ref 0), (1, .int x1), (2, .int x2), (3, .int x3)] [] := by
  intro w
  induction w with
  | zero => intro x1 x2 x3 c_chance hf; cases hf
  | succ w ih =>
    intro x1 x2 x3 c_chance hf
    unfold F9_match_b36 at hf
    refine xV_iload_n 37 rfl dX9_match_36 rfl 3 rfl ?_
    refine xV_iload_n 38 rfl dX9_match_37 rfl 1 rfl ?_
    refine xV_icmp_ge (tgt := 76) 41 rfl dX9_match_38 (by decide) (fun h38 => ?_) (fun h38 => ?_)
    · have hf := xif_t hf h38
      refine xV_iload_n 77 rfl dX9_match_76 rfl 2 rfl ?_
      obtain rfl := Option.some.inj hf
      exact xV_iret hX dX9_match_77 rfl (Nat.zero_le _) (Nat.zero_le _)
    · have hf := xif_f hf h38
      refine xV_aload_n 42 rfl dX9_match_41 rfl 0 rfl ?_
      refine xV_iconst 43 rfl dX9_match_42 xy_i0 ?_
      obtain ⟨v43, hv43, hf⟩ := xb_s hf
      refine xV_same (rest := []) 46 rfl dX9_match_43 rfl (C9_byChance X.1.2.1 hv43) m9_byChance v9_byChance k9_302 rfl rfl rfl rfl rfl (Nat.le_of_ble_eq_true rfl) (Nat.le_of_ble_eq_true rfl) (Nat.le_of_ble_eq_true rfl) ⟨Nat.le_refl _, Nat.le_refl _⟩ ?_
      show xV (j9_match) X 0 0 (hXx v43.2 c_n_fields c_n_ties c_n_worth c_n_forces c_n_many c_n_codes c_n_b_list c_n_b_many c_n_p_list c_n_p_weights c_n_p_drawn c_n_p_many c_n_p_all c_n_p_turns c_l_fault c_l_t_bytes c_l_t_many c_l_t_kind c_l_t_from c_l_t_behind c_l_t_end c_l_s_fields c_l_s_ties c_l_s_worth c_l_s_forces c_l_s_many c_l_s_codes c_l_s_b_list c_l_s_b_many c_l_s_p_list c_l_s_p_weights c_l_s_p_drawn c_l_s_p_many c_l_s_p_all c_l_s_p_turns c_nt_seen c_nt_many c_v_kept c_v_many c_v_turns c_v_stale c_v_goes c_v_row c_w_all c_w_mass c_g_picks c_g_many c_g_table c_g_rowNames c_g_columnNames c_g_rows c_g_columns c_g_scale) 46 [(0, .ref 0), (1, .int x1), (2, .int x2), (3, .int x3)] [.int v43.1]
      refine xV_istore (L' := [(4, .int v43.1), (0, .ref 0), (1, .int x1), (2, .int x2), (3, .int x3)]) 48 rfl dX9_match_46 (xlt rfl) rfl ?_
      refine xV_aload_n 49 rfl dX9_match_48 rfl 1 rfl ?_
      refine xV_iconst 50 rfl dX9_match_49 xy_i1 ?_
      obtain ⟨v50, hv50, hf⟩ := xb_s hf
      refine xV_same (rest := []) 53 rfl dX9_match_50 rfl (C9_byChance X.1.2.1 hv50) m9_byChance v9_byChance k9_302 rfl rfl rfl rfl rfl (Nat.le_of_ble_eq_true rfl) (Nat.le_of_ble_eq_true rfl) (Nat.le_of_ble_eq_true rfl) ⟨Nat.le_refl _, Nat.le_refl _⟩ ?_
      show xV (j9_match) X 0 0 (hXx v50.2 c_n_fields c_n_ties c_n_worth c_n_forces c_n_many c_n_codes c_n_b_list c_n_b_many c_n_p_list c_n_p_weights c_n_p_drawn c_n_p_many c_n_p_all c_n_p_turns c_l_fault c_l_t_bytes c_l_t_many c_l_t_kind c_l_t_from c_l_t_behind c_l_t_end c_l_s_fields c_l_s_ties c_l_s_worth c_l_s_forces c_l_s_many c_l_s_codes c_l_s_b_list c_l_s_b_many c_l_s_p_list c_l_s_p_weights c_l_s_p_drawn c_l_s_p_many c_l_s_p_all c_l_s_p_turns c_nt_seen c_nt_many c_v_kept c_v_many c_v_turns c_v_stale c_v_goes c_v_row c_w_all c_w_mass c_g_picks c_g_many c_g_table c_g_rowNames c_g_columnNames c_g_rows c_g_columns c_g_scale) 53 [(4, .int v43.1), (0, .ref 0), (1, .int x1), (2, .int x2), (3, .int x3)] [.int v50.1]
      refine xV_istore (L' := [(5, .int v50.1), (4, .int v43.1), (0, .ref 0), (1, .int x1), (2, .int x2), (3, .int x3)]) 55 rfl dX9_match_53 (xlt rfl) rfl ?_
      refine xV_iload_n 56 rfl dX9_match_55 rfl 4 rfl ?_
      refine xV_aload_n 57 rfl dX9_match_56 rfl 2 rfl ?_
      refine xV_get (v := .ref 1) 60 rfl dX9_match_57 f9_12 rfl rfl ?_
      refine xV_iconst 61 rfl dX9_match_60 xy_i0 ?_
      refine xV_iload 63 rfl dX9_match_61 1 rfl ?_
      refine xV_iload 65 rfl dX9_match_63 0 rfl ?_
      obtain ⟨v65, hv65, hf⟩ := xb_s hf
      refine xV_vir2 (g := (fun j => 1 + j)) (hl := (hS c_n_fields c_n_ties c_n_worth c_n_forces c_n_many c_n_codes c_n_b_list c_n_b_many c_n_p_list c_n_p_weights c_n_p_drawn c_n_p_many c_n_p_all c_n_p_turns)) (hl' := (hS c_n_fields c_n_ties c_n_worth c_n_forces c_n_many c_n_codes c_n_b_list c_n_b_many c_n_p_list c_n_p_weights c_n_p_drawn c_n_p_many c_n_p_all c_n_p_turns)) (h' := (hXx v50.2 c_n_fields c_n_ties c_n_worth c_n_forces c_n_many c_n_codes c_n_b_list c_n_b_many c_n_p_list c_n_p_weights c_n_p_drawn c_n_p_many c_n_p_all c_n_p_turns c_l_fault c_l_t_bytes c_l_t_many c_l_t_kind c_l_t_from c_l_t_behind c_l_t_end c_l_s_fields c_l_s_ties c_l_s_worth c_l_s_forces c_l_s_many c_l_s_codes c_l_s_b_list c_l_s_b_many c_l_s_p_list c_l_s_p_weights c_l_s_p_drawn c_l_s_p_many c_l_s_p_all c_l_s_p_turns c_nt_seen c_nt_many c_v_kept c_v_many c_v_turns c_v_stale c_v_goes c_v_row c_w_all c_w_mass c_g_picks c_g_many c_g_table c_g_rowNames c_g_columnNames c_g_rows c_g_columns c_g_scale)) (rest := [.int x2]) (ci := 4) 68 rfl dX9_match_65 rfl (C4_gainFor X.1.2.1 hv65) m4_gainFor v4_gainFor k9_144 rfl rfl rfl (e_Xx_S_L1) rfl (Nat.le_of_ble_eq_true rfl) (Nat.le_of_ble_eq_true rfl) (Nat.le_of_ble_eq_true rfl) ⟨Nat.le_refl _, Nat.le_refl _⟩ ?_
      show xV (j9_match) X 0 0 (hXx v50.2 c_n_fields c_n_ties c_n_worth c_n_forces c_n_many c_n_codes c_n_b_list c_n_b_many c_n_p_list c_n_p_weights c_n_p_drawn c_n_p_many c_n_p_all c_n_p_turns c_l_fault c_l_t_bytes c_l_t_many c_l_t_kind c_l_t_from c_l_t_behind c_l_t_end c_l_s_fields c_l_s_ties c_l_s_worth c_l_s_forces c_l_s_many c_l_s_codes c_l_s_b_list c_l_s_b_many c_l_s_p_list c_l_s_p_weights c_l_s_p_drawn c_l_s_p_many c_l_s_p_all c_l_s_p_turns c_nt_seen c_nt_many c_v_kept c_v_many c_v_turns c_v_stale c_v_goes c_v_row c_w_all c_w_mass c_g_picks c_g_many c_g_table c_g_rowNames c_g_columnNames c_g_rows c_g_columns c_g_scale) 68 [(5, .int v50.1), (4, .int v43.1), (0, .ref 0), (1, .int x1), (2, .int x2), (3, .int x3)] [.int v65, .int x2]
      refine xV_iadd 69 rfl dX9_match_68 ?_
      refine xV_istore_n (L' := [(2, .int (x2 + v65)), (5, .int v50.1), (4, .int v43.1), (0, .ref 0), (1, .int x1), (3, .int x3)]) 70 rfl dX9_match_69 rfl (xlt rfl) rfl ?_
      refine xV_iinc (L' := [(3, .int (x3 + (1 : Int32))), (2, .int (x2 + v65)), (5, .int v50.1), (4, .int v43.1), (0, .ref 0), (1, .int x1)]) 73 rfl dX9_match_70 5 rfl (xk_inc xy_i1) (xlt rfl) rfl ?_
      refine xV_goto (tgt := 36) dX9_match_73 (by decide) ?_
      refine xV_sub [4, 5, 1, 0] rfl ?_
      exact ih hf
def F9_match (z : Nat) (x1 : Int32) (c_chance : Int32) (c_n_fields : Int32) (c_n_ties : Int32) (c_n_worth : (Nat → Int32)) (c_n_codes : (Nat → Nat → Int32)) (c_n_p_list : (Nat → Nat → Int32)) (c_n_p_weights : (Nat → Nat → Int32)) (c_n_p_many : (Nat → Int32)) (c_n_p_all : (Nat → Int32)) : Option (Int32 × Int32) :=
  if x1 < (1 : Int32) then (some ((-10000 : Int32), c_chance)) else (if (200 : Int32) < x1 then (some ((-10000 : Int32), c_chance)) else ((F9_hasPlan (0 : Int32) c_n_p_many).bind (fun v14 => if v14 = 0 then (some ((-10000 : Int32), c_chance)) else ((F9_hasPlan (1 : Int32) c_n_p_many).bind (fun v22 => if v22 = 0 then (some ((-10000 : Int32), c_chance)) else (F9_match_b36 z z x1 (0 : Int32) (0 : Int32) c_chance c_n_fields c_n_ties c_n_worth c_n_codes c_n_p_list c_n_p_weights c_n_p_many c_n_p_all))))))
theorem T9_match {X : xX} {z : Nat} {x1 : Int32} {c_chance : Int32} {c_n_fields : Int32} {c_n_ties : Int32} {c_n_worth : (Nat → Int32)} {c_n_codes : (Nat → Nat → Int32)} {c_n_p_list : (Nat → Nat → Int32)} {c_n_p_weights : (Nat → Nat → Int32)} {c_n_p_many : (Nat → Int32)} {c_n_p_all : (Nat → Int32)} {c_n_forces : (Nat → Int32)} {c_n_many : (Nat → Int32)} {c_n_b_list : (Nat → Nat → Int32)} {c_n_b_many : (Nat → Int32)} {c_n_p_drawn : (Nat → Nat → Int32)} {c_n_p_turns : (Nat → Int32)} {c_l_fault : Int32} {c_l_t_bytes : (Nat → Int32)} {c_l_t_many : Int32} {c_l_t_kind : Int32} {c_l_t_from : Int32} {c_l_t_behind : Int32} {c_l_t_end : Int32} {c_l_s_fields : Int32} {c_l_s_ties : Int32} {c_l_s_worth : (Nat → Int32)} {c_l_s_forces : (Nat → Int32)} {c_l_s_many : (Nat → Int32)} {c_l_s_codes : (Nat → Nat → Int32)} {c_l_s_b_list : (Nat → Nat → Int32)} {c_l_s_b_many : (Nat → Int32)} {c_l_s_p_list : (Nat → Nat → Int32)} {c_l_s_p_weights : (Nat → Nat → Int32)} {c_l_s_p_drawn : (Nat → Nat → Int32)} {c_l_s_p_many : (Nat → Int32)} {c_l_s_p_all : (Nat → Int32)} {c_l_s_p_turns : (Nat → Int32)} {c_nt_seen : (Nat → Nat → Int32)} {c_nt_many : (Nat → Int32)} {c_v_kept : (Nat → Nat → Int32)} {c_v_many : (Nat → Int32)} {c_v_turns : Int32} {c_v_stale : Int32} {c_v_goes : (Nat → Nat → Int32)} {c_v_row : (Nat → Int32)} {c_w_all : Int32} {c_w_mass : (Nat → Nat → Int32)} {c_g_picks : (Nat → Nat → Int32)} {c_g_many : (Nat → Int32)} {c_g_table : (Nat → Nat → Int64)} {c_g_rowNames : (Nat → Int32)} {c_g_columnNames : (Nat → Int32)} {c_g_rows : Int32} {c_g_columns : Int32} {c_g_scale : Int64} {v : Int32 × Int32} (hX : xIs (j9_match) X ((some .int)) (some (.int v.1)) (hXx v.2 c_n_fields c_n_ties c_n_worth c_n_forces c_n_many c_n_codes c_n_b_list c_n_b_many c_n_p_list c_n_p_weights c_n_p_drawn c_n_p_many c_n_p_all c_n_p_turns c_l_fault c_l_t_bytes c_l_t_many c_l_t_kind c_l_t_from c_l_t_behind c_l_t_end c_l_s_fields c_l_s_ties c_l_s_worth c_l_s_forces c_l_s_many c_l_s_codes c_l_s_b_list c_l_s_b_many c_l_s_p_list c_l_s_p_weights c_l_s_p_drawn c_l_s_p_many c_l_s_p_all c_l_s_p_turns c_nt_seen c_nt_many c_v_kept c_v_many c_v_turns c_v_stale c_v_goes c_v_row c_w_all c_w_mass c_g_picks c_g_many c_g_table c_g_rowNames c_g_columnNames c_g_rows c_g_columns c_g_scale)) (hf : F9_match z x1 c_chance c_n_fields c_n_ties c_n_worth c_n_codes c_n_p_list c_n_p_weights c_n_p_many c_n_p_all = some v) : xV (j9_match) X 0 0 (hXx c_chance c_n_fields c_n_ties c_n_worth c_n_forces c_n_many c_n_codes c_n_b_list c_n_b_many c_n_p_list c_n_p_weights c_n_p_drawn c_n_p_many c_n_p_all c_n_p_turns c_l_fault c_l_t_bytes c_l_t_many c_l_t_kind c_l_t_from c_l_t_behind c_l_t_end c_l_s_fields c_l_s_ties c_l_s_worth c_l_s_forces c_l_s_many c_l_s_codes c_l_s_b_list c_l_s_b_many c_l_s_p_list c_l_s_p_weights c_l_s_p_drawn c_l_s_p_many c_l_s_p_all c_l_s_p_turns c_nt_seen c_nt_many c_v_kept c_v_many c_v_turns c_v_stale c_v_goes c_v_row c_w_all c_w_mass c_g_picks c_g_many c_g_table c_g_rowNames c_g_columnNames c_g_rows c_g_columns c_g_scale) 0 [(0, .ref 0), (1, .int x1)] [] := by
  unfold F9_match at hf
  refine xV_iload_n 1 rfl dX9_match_0 rfl 1 rfl ?_
  refine xV_iconst 2 rfl dX9_match_1 xy_i1 ?_
  refine xV_icmp_lt (tgt := 28) 5 rfl dX9_match_2 (by decide) (fun h2 => ?_) (fun h2 => ?_)
  · have hf := xif_t hf h2
    refine xV_sipush 31 rfl dX9_match_28 xy_sm10000 ?_
    obtain rfl := Option.some.inj hf
    exact xV_iret hX dX9_match_31 rfl (Nat.zero_le _) (Nat.zero_le _)
  · have hf := xif_f hf h2
    refine xV_iload_n 6 rfl dX9_match_5 rfl 1 rfl ?_
    refine xV_sipush 9 rfl dX9_match_6 xy_s200 ?_
    refine xV_icmp_gt (tgt := 28) 12 rfl dX9_match_9 (by decide) (fun h9 => ?_) (fun h9 => ?_)
    · have hf := xif_t hf h9
      refine xV_sipush 31 rfl dX9_match_28 xy_sm10000 ?_
      obtain rfl := Option.some.inj hf
      exact xV_iret hX dX9_match_31 rfl (Nat.zero_le _) (Nat.zero_le _)
    · have hf := xif_f hf h9
      refine xV_aload_n 13 rfl dX9_match_12 rfl 0 rfl ?_
      refine xV_iconst 14 rfl dX9_match_13 xy_i0 ?_
      obtain ⟨v14, hv14, hf⟩ := xb_s hf
      refine xV_same (rest := []) 17 rfl dX9_match_14 rfl (C9_hasPlan X.1.2.1 hv14) m9_hasPlan v9_hasPlan k9_266 rfl rfl rfl rfl rfl (Nat.le_of_ble_eq_true rfl) (Nat.le_of_ble_eq_true rfl) (Nat.le_of_ble_eq_true rfl) ⟨Nat.le_refl _, Nat.le_refl _⟩ ?_
      show xV (j9_match) X 0 0 (hXx c_chance c_n_fields c_n_ties c_n_worth c_n_forces c_n_many c_n_codes c_n_b_list c_n_b_many c_n_p_list c_n_p_weights c_n_p_drawn c_n_p_many c_n_p_all c_n_p_turns c_l_fault c_l_t_bytes c_l_t_many c_l_t_kind c_l_t_from c_l_t_behind c_l_t_end c_l_s_fields c_l_s_ties c_l_s_worth c_l_s_forces c_l_s_many c_l_s_codes c_l_s_b_list c_l_s_b_many c_l_s_p_list c_l_s_p_weights c_l_s_p_drawn c_l_s_p_many c_l_s_p_all c_l_s_p_turns c_nt_seen c_nt_many c_v_kept c_v_many c_v_turns c_v_stale c_v_goes c_v_row c_w_all c_w_mass c_g_picks c_g_many c_g_table c_g_rowNames c_g_columnNames c_g_rows c_g_columns c_g_scale) 17 [(0, .ref 0), (1, .int x1)] [.int v14]
      refine xV_if_eq (tgt := 28) 20 rfl dX9_match_17 (by decide) (fun h17 => ?_) (fun h17 => ?_)
      · have hf := xif_t hf h17
        refine xV_sipush 31 rfl dX9_match_28 xy_sm10000 ?_
        obtain rfl := Option.some.inj hf
        exact xV_iret hX dX9_match_31 rfl (Nat.zero_le _) (Nat.zero_le _)
      · have hf := xif_f hf h17
        refine xV_aload_n 21 rfl dX9_match_20 rfl 0 rfl ?_
        refine xV_iconst 22 rfl dX9_match_21 xy_i1 ?_
        obtain ⟨v22, hv22, hf⟩ := xb_s hf
        refine xV_same (rest := []) 25 rfl dX9_match_22 rfl (C9_hasPlan X.1.2.1 hv22) m9_hasPlan v9_hasPlan k9_266 rfl rfl rfl rfl rfl (Nat.le_of_ble_eq_true rfl) (Nat.le_of_ble_eq_true rfl) (Nat.le_of_ble_eq_true rfl) ⟨Nat.le_refl _, Nat.le_refl _⟩ ?_
        show xV (j9_match) X 0 0 (hXx c_chance c_n_fields c_n_ties c_n_worth c_n_forces c_n_many c_n_codes c_n_b_list c_n_b_many c_n_p_list c_n_p_weights c_n_p_drawn c_n_p_many c_n_p_all c_n_p_turns c_l_fault c_l_t_bytes c_l_t_many c_l_t_kind c_l_t_from c_l_t_behind c_l_t_end c_l_s_fields c_l_s_ties c_l_s_worth c_l_s_forces c_l_s_many c_l_s_codes c_l_s_b_list c_l_s_b_many c_l_s_p_list c_l_s_p_weights c_l_s_p_drawn c_l_s_p_many c_l_s_p_all c_l_s_p_turns c_nt_seen c_nt_many c_v_kept c_v_many c_v_turns c_v_stale c_v_goes c_v_row c_w_all c_w_mass c_g_picks c_g_many c_g_table c_g_rowNames c_g_columnNames c_g_rows c_g_columns c_g_scale) 25 [(0, .ref 0), (1, .int x1)] [.int v22]
        refine xV_if_ne (tgt := 32) 28 rfl dX9_match_25 (by decide) (fun h25 => ?_) (fun h25 => ?_)
        · have hf := xif_f hf h25
          refine xV_iconst 33 rfl dX9_match_32 xy_i0 ?_
          refine xV_istore_n (L' := [(2, .int (0 : Int32)), (0, .ref 0), (1, .int x1)]) 34 rfl dX9_match_33 rfl (xlt rfl) rfl ?_
          refine xV_iconst 35 rfl dX9_match_34 xy_i0 ?_
          refine xV_istore_n (L' := [(3, .int (0 : Int32)), (2, .int (0 : Int32)), (0, .ref 0), (1, .int x1)]) 36 rfl dX9_match_35 rfl (xlt rfl) rfl ?_
          refine xV_sub [2, 3, 1, 0] rfl ?_
          exact T9_match_b36 hX _ hf
        · have hf := xif_t hf h25
          refine xV_sipush 31 rfl dX9_match_28 xy_sm10000 ?_
          obtain rfl := Option.some.inj hf
          exact xV_iret hX dX9_match_31 rfl (Nat.zero_le _) (Nat.zero_le _)
theorem C9_match (l : Launch) {z : Nat} {x1 : Int32} {c_chance : Int32} {c_n_fields : Int32} {c_n_ties : Int32} {c_n_worth : (Nat → Int32)} {c_n_codes : (Nat → Nat → Int32)} {c_n_p_list : (Nat → Nat → Int32)} {c_n_p_weights : (Nat → Nat → Int32)} {c_n_p_many : (Nat → Int32)} {c_n_p_all : (Nat → Int32)} {c_n_forces : (Nat → Int32)} {c_n_many : (Nat → Int32)} {c_n_b_list : (Nat → Nat → Int32)} {c_n_b_many : (Nat → Int32)} {c_n_p_drawn : (Nat → Nat → Int32)} {c_n_p_turns : (Nat → Int32)} {c_l_fault : Int32} {c_l_t_bytes : (Nat → Int32)} {c_l_t_many : Int32} {c_l_t_kind : Int32} {c_l_t_from : Int32} {c_l_t_behind : Int32} {c_l_t_end : Int32} {c_l_s_fields : Int32} {c_l_s_ties : Int32} {c_l_s_worth : (Nat → Int32)} {c_l_s_forces : (Nat → Int32)} {c_l_s_many : (Nat → Int32)} {c_l_s_codes : (Nat → Nat → Int32)} {c_l_s_b_list : (Nat → Nat → Int32)} {c_l_s_b_many : (Nat → Int32)} {c_l_s_p_list : (Nat → Nat → Int32)} {c_l_s_p_weights : (Nat → Nat → Int32)} {c_l_s_p_drawn : (Nat → Nat → Int32)} {c_l_s_p_many : (Nat → Int32)} {c_l_s_p_all : (Nat → Int32)} {c_l_s_p_turns : (Nat → Int32)} {c_nt_seen : (Nat → Nat → Int32)} {c_nt_many : (Nat → Int32)} {c_v_kept : (Nat → Nat → Int32)} {c_v_many : (Nat → Int32)} {c_v_turns : Int32} {c_v_stale : Int32} {c_v_goes : (Nat → Nat → Int32)} {c_v_row : (Nat → Int32)} {c_w_all : Int32} {c_w_mass : (Nat → Nat → Int32)} {c_g_picks : (Nat → Nat → Int32)} {c_g_many : (Nat → Int32)} {c_g_table : (Nat → Nat → Int64)} {c_g_rowNames : (Nat → Int32)} {c_g_columnNames : (Nat → Int32)} {c_g_rows : Int32} {c_g_columns : Int32} {c_g_scale : Int64} {v : Int32 × Int32} (hf : F9_match z x1 c_chance c_n_fields c_n_ties c_n_worth c_n_codes c_n_p_list c_n_p_weights c_n_p_many c_n_p_all = some v) : xCt l yX9_match ((some .int)) j9_match [.ref 0, .int x1] (hXx c_chance c_n_fields c_n_ties c_n_worth c_n_forces c_n_many c_n_codes c_n_b_list c_n_b_many c_n_p_list c_n_p_weights c_n_p_drawn c_n_p_many c_n_p_all c_n_p_turns c_l_fault c_l_t_bytes c_l_t_many c_l_t_kind c_l_t_from c_l_t_behind c_l_t_end c_l_s_fields c_l_s_ties c_l_s_worth c_l_s_forces c_l_s_many c_l_s_codes c_l_s_b_list c_l_s_b_many c_l_s_p_list c_l_s_p_weights c_l_s_p_drawn c_l_s_p_many c_l_s_p_all c_l_s_p_turns c_nt_seen c_nt_many c_v_kept c_v_many c_v_turns c_v_stale c_v_goes c_v_row c_w_all c_w_mass c_g_picks c_g_many c_g_table c_g_rowNames c_g_columnNames c_g_rows c_g_columns c_g_scale) (some (.int v.1)) (hXx v.2 c_n_fields c_n_ties c_n_worth c_n_forces c_n_many c_n_codes c_n_b_list c_n_b_many c_n_p_list c_n_p_weights c_n_p_drawn c_n_p_many c_n_p_all c_n_p_turns c_l_fault c_l_t_bytes c_l_t_many c_l_t_kind c_l_t_from c_l_t_behind c_l_t_end c_l_s_fields c_l_s_ties c_l_s_worth c_l_s_forces c_l_s_many c_l_s_codes c_l_s_b_list c_l_s_b_many c_l_s_p_list c_l_s_p_weights c_l_s_p_drawn c_l_s_p_many c_l_s_p_all c_l_s_p_turns c_nt_seen c_nt_many c_v_kept c_v_many c_v_turns c_v_stale c_v_goes c_v_row c_w_all c_w_mass c_g_picks c_g_many c_g_table c_g_rowNames c_g_columnNames c_g_rows c_g_columns c_g_scale) := xCt_of (by decide) rfl (Nat.le_of_ble_eq_true rfl) (fun _ hX => T9_match hX hf)
theorem m9_match : xMd yX9_match RX9 ((some .int)) j9_match 1 := ⟨List.mem_of_getElem? (i := 1244) (by decide +kernel), List.mem_of_getElem? (i := 2) (by decide +kernel), rfl, by decide +kernel⟩
theorem v9_match : xMv yX9_match RX9 := ⟨List.mem_of_getElem? (i := 1242) (by decide +kernel), List.mem_of_getElem? (i := 1243) (by decide +kernel)⟩
theorem xy_b40 : (Int8.ofInt (40)).toInt32 = (40 : Int32) := by decide
theorem f9_310 : xFl RX9 310 2 1 := ⟨_, rfl, by decide, List.mem_of_getElem? (i := 1253) (by decide +kernel)⟩
theorem k9_311 : Cond.methodLink RX9 311 yX2_put ∈ wsL_law0 := List.mem_of_getElem? (i := 1254) (by decide +kernel)
theorem dX9_note_0 : decode cX9_note 0 = .ok (.aload_n 0, 1) := by decide +kernel
theorem dX9_note_1 : decode cX9_note 1 = .ok (.getfield 12, 3) := by decide +kernel
theorem dX9_note_4 : decode cX9_note 4 = .ok (.iload_n 1, 1) := by decide +kernel
theorem dX9_note_5 : decode cX9_note 5 = .ok (.iload_n 2, 1) := by decide +kernel
theorem dX9_note_6 : decode cX9_note 6 = .ok (.invokevirtual 125, 3) := by decide +kernel
theorem dX9_note_9 : decode cX9_note 9 = .ok (.ifCond .eq 17, 3) := by decide +kernel
theorem dX9_note_12 : decode cX9_note 12 = .ok (.aload_n 0, 1) := by decide +kernel
theorem dX9_note_13 : decode cX9_note 13 = .ok (.getfield 30, 3) := by decide +kernel
theorem dX9_note_16 : decode cX9_note 16 = .ok (.iload_n 1, 1) := by decide +kernel
theorem dX9_note_17 : decode cX9_note 17 = .ok (.aaload, 1) := by decide +kernel
theorem dX9_note_18 : decode cX9_note 18 = .ok (.getfield 310, 3) := by decide +kernel
theorem dX9_note_21 : decode cX9_note 21 = .ok (.bipush 40, 2) := by decide +kernel
theorem dX9_note_23 : decode cX9_note 23 = .ok (.if_icmp .lt 5, 3) := by decide +kernel
theorem dX9_note_26 : decode cX9_note 26 = .ok (.iconst (-1), 1) := by decide +kernel
theorem dX9_note_27 : decode cX9_note 27 = .ok (.ireturn, 1) := by decide +kernel
theorem dX9_note_28 : decode cX9_note 28 = .ok (.aload_n 0, 1) := by decide +kernel
theorem dX9_note_29 : decode cX9_note 29 = .ok (.getfield 30, 3) := by decide +kernel
theorem dX9_note_32 : decode cX9_note 32 = .ok (.iload_n 1, 1) := by decide +kernel
theorem dX9_note_33 : decode cX9_note 33 = .ok (.aaload, 1) := by decide +kernel
theorem dX9_note_34 : decode cX9_note 34 = .ok (.iload_n 2, 1) := by decide +kernel
theorem dX9_note_35 : decode cX9_note 35 = .ok (.invokevirtual 311, 3) := by decide +kernel
theorem dX9_note_38 : decode cX9_note 38 = .ok (.aload_n 0, 1) := by decide +kernel
theorem dX9_note_39 : decode cX9_note 39 = .ok (.getfield 30, 3) := by decide +kernel
theorem dX9_note_42 : decode cX9_note 42 = .ok (.iload_n 1, 1) := by decide +kernel
theorem dX9_note_43 : decode cX9_note 43 = .ok (.aaload, 1) := by decide +kernel
theorem dX9_note_44 : decode cX9_note 44 = .ok (.getfield 310, 3) := by decide +kernel
theorem dX9_note_47 : decode cX9_note 47 = .ok (.ireturn, 1) := by decide +kernel
abbrev j9_note : xJ := (cX9_note, 3, RX9, 3, 0, 0)
def F9_note (x1 : Int32) (x2 : Int32) (c_n_many : (Nat → Int32)) (c_nt_seen : (Nat → Nat → Int32)) (c_nt_many : (Nat → Int32)) : Option (Int32 × (Nat → Nat → Int32) × (Nat → Int32)) :=
  (F4_isSplit x1 x2 c_n_many).bind (fun v6 => if v6 = 0 then (some ((-1 : Int32), c_nt_seen, c_nt_many)) else (xg (xin x1 2) (if (c_nt_many (xn x1)) < (40 : Int32) then (xg (xin x1 2) ((F2_put x2 (c_nt_seen (xn x1)) (c_nt_many (xn x1))).bind (fun v35 => xg (xin x1 2) (some (((va_up c_nt_many (xn x1) v35.2) (xn x1)), (va_up c_nt_seen (xn x1) v35.1), (va_up c_nt_many (xn x1) v35.2)))))) else (some ((-1 : Int32), c_nt_seen, c_nt_many)))))
theorem T9_note {X : xX} {x1 : Int32} {x2 : Int32} {c_n_many : (Nat → Int32)} {c_nt_seen : (Nat → Nat → Int32)} {c_nt_many : (Nat → Int32)} {c_chance : Int32} {c_n_fields : Int32} {c_n_ties : Int32} {c_n_worth : (Nat → Int32)} {c_n_forces : (Nat → Int32)} {c_n_codes : (Nat → Nat → Int32)} {c_n_b_list : (Nat → Nat → Int32)} {c_n_b_many : (Nat → Int32)} {c_n_p_list : (Nat → Nat → Int32)} {c_n_p_weights : (Nat → Nat → Int32)} {c_n_p_drawn : (Nat → Nat → Int32)} {c_n_p_many : (Nat → Int32)} {c_n_p_all : (Nat → Int32)} {c_n_p_turns : (Nat → Int32)} {c_l_fault : Int32} {c_l_t_bytes : (Nat → Int32)} {c_l_t_many : Int32} {c_l_t_kind : Int32} {c_l_t_from : Int32} {c_l_t_behind : Int32} {c_l_t_end : Int32} {c_l_s_fields : Int32} {c_l_s_ties : Int32} {c_l_s_worth : (Nat → Int32)} {c_l_s_forces : (Nat → Int32)} {c_l_s_many : (Nat → Int32)} {c_l_s_codes : (Nat → Nat → Int32)} {c_l_s_b_list : (Nat → Nat → Int32)} {c_l_s_b_many : (Nat → Int32)} {c_l_s_p_list : (Nat → Nat → Int32)} {c_l_s_p_weights : (Nat → Nat → Int32)} {c_l_s_p_drawn : (Nat → Nat → Int32)} {c_l_s_p_many : (Nat → Int32)} {c_l_s_p_all : (Nat → Int32)} {c_l_s_p_turns : (Nat → Int32)} {c_v_kept : (Nat → Nat → Int32)} {c_v_many : (Nat → Int32)} {c_v_turns : Int32} {c_v_stale : Int32} {c_v_goes : (Nat → Nat → Int32)} {c_v_row : (Nat → Int32)} {c_w_all : Int32} {c_w_mass : (Nat → Nat → Int32)} {c_g_picks : (Nat → Nat → Int32)} {c_g_many : (Nat → Int32)} {c_g_table : (Nat → Nat → Int64)} {c_g_rowNames : (Nat → Int32)} {c_g_columnNames : (Nat → Int32)} {c_g_rows : Int32} {c_g_columns : Int32} {c_g_scale : Int64} {v : Int32 × (Nat → Nat → Int32) × (Nat → Int32)} (hX : xIs (j9_note) X ((some .int)) (some (.int v.1)) (hXx c_chance c_n_fields c_n_ties c_n_worth c_n_forces c_n_many c_n_codes c_n_b_list c_n_b_many c_n_p_list c_n_p_weights c_n_p_drawn c_n_p_many c_n_p_all c_n_p_turns c_l_fault c_l_t_bytes c_l_t_many c_l_t_kind c_l_t_from c_l_t_behind c_l_t_end c_l_s_fields c_l_s_ties c_l_s_worth c_l_s_forces c_l_s_many c_l_s_codes c_l_s_b_list c_l_s_b_many c_l_s_p_list c_l_s_p_weights c_l_s_p_drawn c_l_s_p_many c_l_s_p_all c_l_s_p_turns v.2.1 v.2.2 c_v_kept c_v_many c_v_turns c_v_stale c_v_goes c_v_row c_w_all c_w_mass c_g_picks c_g_many c_g_table c_g_rowNames c_g_columnNames c_g_rows c_g_columns c_g_scale)) (hf : F9_note x1 x2 c_n_many c_nt_seen c_nt_many = some v) : xV (j9_note) X 0 0 (hXx c_chance c_n_fields c_n_ties c_n_worth c_n_forces c_n_many c_n_codes c_n_b_list c_n_b_many c_n_p_list c_n_p_weights c_n_p_drawn c_n_p_many c_n_p_all c_n_p_turns c_l_fault c_l_t_bytes c_l_t_many c_l_t_kind c_l_t_from c_l_t_behind c_l_t_end c_l_s_fields c_l_s_ties c_l_s_worth c_l_s_forces c_l_s_many c_l_s_codes c_l_s_b_list c_l_s_b_many c_l_s_p_list c_l_s_p_weights c_l_s_p_drawn c_l_s_p_many c_l_s_p_all c_l_s_p_turns c_nt_seen c_nt_many c_v_kept c_v_many c_v_turns c_v_stale c_v_goes c_v_row c_w_all c_w_mass c_g_picks c_g_many c_g_table c_g_rowNames c_g_columnNames c_g_rows c_g_columns c_g_scale) 0 [(0, .ref 0), (1, .int x1), (2, .int x2)] [] := by
  unfold F9_note at hf
  refine xV_aload_n 1 rfl dX9_note_0 rfl 0 rfl ?_
  refine xV_get (v := .ref 1) 4 rfl dX9_note_1 f9_12 rfl rfl ?_
  refine xV_iload_n 5 rfl dX9_note_4 rfl 1 rfl ?_
  refine xV_iload_n 6 rfl dX9_note_5 rfl 2 rfl ?_
  obtain ⟨v6, hv6, hf⟩ := xb_s hf
  refine xV_vir2 (g := (fun j => 1 + j)) (hl := (hS c_n_fields c_n_ties c_n_worth c_n_forces c_n_many c_n_codes c_n_b_list c_n_b_many c_n_p_list c_n_p_weights c_n_p_drawn c_n_p_many c_n_p_all c_n_p_turns)) (hl' := (hS c_n_fields c_n_ties c_n_worth c_n_forces c_n_many c_n_codes c_n_b_list c_n_b_many c_n_p_list c_n_p_weights c_n_p_drawn c_n_p_many c_n_p_all c_n_p_turns)) (h' := (hXx c_chance c_n_fields c_n_ties c_n_worth c_n_forces c_n_many c_n_codes c_n_b_list c_n_b_many c_n_p_list c_n_p_weights c_n_p_drawn c_n_p_many c_n_p_all c_n_p_turns c_l_fault c_l_t_bytes c_l_t_many c_l_t_kind c_l_t_from c_l_t_behind c_l_t_end c_l_s_fields c_l_s_ties c_l_s_worth c_l_s_forces c_l_s_many c_l_s_codes c_l_s_b_list c_l_s_b_many c_l_s_p_list c_l_s_p_weights c_l_s_p_drawn c_l_s_p_many c_l_s_p_all c_l_s_p_turns c_nt_seen c_nt_many c_v_kept c_v_many c_v_turns c_v_stale c_v_goes c_v_row c_w_all c_w_mass c_g_picks c_g_many c_g_table c_g_rowNames c_g_columnNames c_g_rows c_g_columns c_g_scale)) (rest := []) (ci := 4) 9 rfl dX9_note_6 rfl (C4_isSplit X.1.2.1 hv6) m4_isSplit v4_isSplit k9_125 rfl rfl rfl (e_Xx_S_L1) rfl (Nat.le_of_ble_eq_true rfl) (Nat.le_of_ble_eq_true rfl) (Nat.le_of_ble_eq_true rfl) ⟨Nat.le_refl _, Nat.le_refl _⟩ ?_
  show xV (j9_note) X 0 0 (hXx c_chance c_n_fields c_n_ties c_n_worth c_n_forces c_n_many c_n_codes c_n_b_list c_n_b_many c_n_p_list c_n_p_weights c_n_p_drawn c_n_p_many c_n_p_all c_n_p_turns c_l_fault c_l_t_bytes c_l_t_many c_l_t_kind c_l_t_from c_l_t_behind c_l_t_end c_l_s_fields c_l_s_ties c_l_s_worth c_l_s_forces c_l_s_many c_l_s_codes c_l_s_b_list c_l_s_b_many c_l_s_p_list c_l_s_p_weights c_l_s_p_drawn c_l_s_p_many c_l_s_p_all c_l_s_p_turns c_nt_seen c_nt_many c_v_kept c_v_many c_v_turns c_v_stale c_v_goes c_v_row c_w_all c_w_mass c_g_picks c_g_many c_g_table c_g_rowNames c_g_columnNames c_g_rows c_g_columns c_g_scale) 9 [(0, .ref 0), (1, .int x1), (2, .int x2)] [.int v6]
  refine xV_if_eq (tgt := 26) 12 rfl dX9_note_9 (by decide) (fun h9 => ?_) (fun h9 => ?_)
  · have hf := xif_t hf h9
    refine xV_iconst 27 rfl dX9_note_26 xy_im1 ?_
    obtain rfl := Option.some.inj hf
    exact xV_iret hX dX9_note_27 rfl (Nat.zero_le _) (Nat.zero_le _)
  · have hf := xif_f hf h9
    refine xV_aload_n 13 rfl dX9_note_12 rfl 0 rfl ?_
    refine xV_get (v := .ref 46) 16 rfl dX9_note_13 f9_30 rfl rfl ?_
    refine xV_iload_n 17 rfl dX9_note_16 rfl 1 rfl ?_
    obtain ⟨hg17, hf⟩ := xg_s hf
    refine xV_aaload (b := (47 + 2 * (xn x1))) 18 rfl dX9_note_17 rfl rfl rfl (xin_ok hg17) (by show ([47, 49] : List Nat)[(xn x1)]? = some (47 + 2 * (xn x1)); have hi := xin_lt hg17; generalize (xn x1) = i at hi ⊢; match i, hi with | 0, _ => rfl | 1, _ => rfl) ?_
    refine xV_get (v := .int (c_nt_many (xn x1))) (fs := [.ref (48 + 2 * (xn x1)), .int (c_nt_many (xn x1))]) 21 rfl dX9_note_18 f9_310 (by have hi := (xin_lt hg17); generalize (xn x1) = i at hi ⊢; match i, hi with | 0, _ => exact rfl | 1, _ => exact rfl) rfl ?_
    refine xV_bipush 23 rfl dX9_note_21 xy_b40 ?_
    refine xV_icmp_lt (tgt := 28) 26 rfl dX9_note_23 (by decide) (fun h23 => ?_) (fun h23 => ?_)
    · have hf := xif_t hf h23
      refine xV_aload_n 29 rfl dX9_note_28 rfl 0 rfl ?_
      refine xV_get (v := .ref 46) 32 rfl dX9_note_29 f9_30 rfl rfl ?_
      refine xV_iload_n 33 rfl dX9_note_32 rfl 1 rfl ?_
      obtain ⟨hg33, hf⟩ := xg_s hf
      refine xV_aaload (b := (47 + 2 * (xn x1))) 34 rfl dX9_note_33 rfl rfl rfl (xin_ok hg33) (by show ([47, 49] : List Nat)[(xn x1)]? = some (47 + 2 * (xn x1)); have hi := xin_lt hg33; generalize (xn x1) = i at hi ⊢; match i, hi with | 0, _ => rfl | 1, _ => rfl) ?_
      refine xV_iload_n 35 rfl dX9_note_34 rfl 2 rfl ?_
      obtain ⟨v35, hv35, hf⟩ := xb_s hf
      refine xV_vir2 (g := (fun j => (47 + 2 * (xn x1)) + j)) (hl := (hNt (c_nt_seen (xn x1)) (c_nt_many (xn x1)))) (hl' := (hNt v35.1 v35.2)) (h' := (hXx c_chance c_n_fields c_n_ties c_n_worth c_n_forces c_n_many c_n_codes c_n_b_list c_n_b_many c_n_p_list c_n_p_weights c_n_p_drawn c_n_p_many c_n_p_all c_n_p_turns c_l_fault c_l_t_bytes c_l_t_many c_l_t_kind c_l_t_from c_l_t_behind c_l_t_end c_l_s_fields c_l_s_ties c_l_s_worth c_l_s_forces c_l_s_many c_l_s_codes c_l_s_b_list c_l_s_b_many c_l_s_p_list c_l_s_p_weights c_l_s_p_drawn c_l_s_p_many c_l_s_p_all c_l_s_p_turns (va_up c_nt_seen (xn x1) v35.1) (va_up c_nt_many (xn x1) v35.2) c_v_kept c_v_many c_v_turns c_v_stale c_v_goes c_v_row c_w_all c_w_mass c_g_picks c_g_many c_g_table c_g_rowNames c_g_columnNames c_g_rows c_g_columns c_g_scale)) (rest := []) (ci := 2) 38 rfl dX9_note_35 rfl (C2_put X.1.2.1 hv35) m2_put v2_put k9_311 rfl rfl rfl (e_Xx_Nt_F6 (xin_lt hg33) rfl rfl) rfl (Nat.le_of_ble_eq_true rfl) (Nat.le_of_ble_eq_true rfl) (Nat.le_of_ble_eq_true rfl) ⟨Nat.le_refl _, Nat.le_refl _⟩ ?_
      show xV (j9_note) X 0 0 (hXx c_chance c_n_fields c_n_ties c_n_worth c_n_forces c_n_many c_n_codes c_n_b_list c_n_b_many c_n_p_list c_n_p_weights c_n_p_drawn c_n_p_many c_n_p_all c_n_p_turns c_l_fault c_l_t_bytes c_l_t_many c_l_t_kind c_l_t_from c_l_t_behind c_l_t_end c_l_s_fields c_l_s_ties c_l_s_worth c_l_s_forces c_l_s_many c_l_s_codes c_l_s_b_list c_l_s_b_many c_l_s_p_list c_l_s_p_weights c_l_s_p_drawn c_l_s_p_many c_l_s_p_all c_l_s_p_turns (va_up c_nt_seen (xn x1) v35.1) (va_up c_nt_many (xn x1) v35.2) c_v_kept c_v_many c_v_turns c_v_stale c_v_goes c_v_row c_w_all c_w_mass c_g_picks c_g_many c_g_table c_g_rowNames c_g_columnNames c_g_rows c_g_columns c_g_scale) 38 [(0, .ref 0), (1, .int x1), (2, .int x2)] []
      refine xV_aload_n 39 rfl dX9_note_38 rfl 0 rfl ?_
      refine xV_get (v := .ref 46) 42 rfl dX9_note_39 f9_30 rfl rfl ?_
      refine xV_iload_n 43 rfl dX9_note_42 rfl 1 rfl ?_
      obtain ⟨hg43, hf⟩ := xg_s hf
      refine xV_aaload (b := (47 + 2 * (xn x1))) 44 rfl dX9_note_43 rfl rfl rfl (xin_ok hg43) (by show ([47, 49] : List Nat)[(xn x1)]? = some (47 + 2 * (xn x1)); have hi := xin_lt hg43; generalize (xn x1) = i at hi ⊢; match i, hi with | 0, _ => rfl | 1, _ => rfl) ?_
      refine xV_get (v := .int ((va_up c_nt_many (xn x1) v35.2) (xn x1))) (fs := [.ref (48 + 2 * (xn x1)), .int ((va_up c_nt_many (xn x1) v35.2) (xn x1))]) 47 rfl dX9_note_44 f9_310 (by have hi := (xin_lt hg43); generalize (xn x1) = i at hi ⊢; match i, hi with | 0, _ => exact rfl | 1, _ => exact rfl) rfl ?_
      obtain rfl := Option.some.inj hf
      exact xV_iret hX dX9_note_47 rfl (Nat.zero_le _) (Nat.zero_le _)
    · have hf := xif_f hf h23
      refine xV_iconst 27 rfl dX9_note_26 xy_im1 ?_
      obtain rfl := Option.some.inj hf
      exact xV_iret hX dX9_note_27 rfl (Nat.zero_le _) (Nat.zero_le _)
theorem C9_note (l : Launch) {x1 : Int32} {x2 : Int32} {c_n_many : (Nat → Int32)} {c_nt_seen : (Nat → Nat → Int32)} {c_nt_many : (Nat → Int32)} {c_chance : Int32} {c_n_fields : Int32} {c_n_ties : Int32} {c_n_worth : (Nat → Int32)} {c_n_forces : (Nat → Int32)} {c_n_codes : (Nat → Nat → Int32)} {c_n_b_list : (Nat → Nat → Int32)} {c_n_b_many : (Nat → Int32)} {c_n_p_list : (Nat → Nat → Int32)} {c_n_p_weights : (Nat → Nat → Int32)} {c_n_p_drawn : (Nat → Nat → Int32)} {c_n_p_many : (Nat → Int32)} {c_n_p_all : (Nat → Int32)} {c_n_p_turns : (Nat → Int32)} {c_l_fault : Int32} {c_l_t_bytes : (Nat → Int32)} {c_l_t_many : Int32} {c_l_t_kind : Int32} {c_l_t_from : Int32} {c_l_t_behind : Int32} {c_l_t_end : Int32} {c_l_s_fields : Int32} {c_l_s_ties : Int32} {c_l_s_worth : (Nat → Int32)} {c_l_s_forces : (Nat → Int32)} {c_l_s_many : (Nat → Int32)} {c_l_s_codes : (Nat → Nat → Int32)} {c_l_s_b_list : (Nat → Nat → Int32)} {c_l_s_b_many : (Nat → Int32)} {c_l_s_p_list : (Nat → Nat → Int32)} {c_l_s_p_weights : (Nat → Nat → Int32)} {c_l_s_p_drawn : (Nat → Nat → Int32)} {c_l_s_p_many : (Nat → Int32)} {c_l_s_p_all : (Nat → Int32)} {c_l_s_p_turns : (Nat → Int32)} {c_v_kept : (Nat → Nat → Int32)} {c_v_many : (Nat → Int32)} {c_v_turns : Int32} {c_v_stale : Int32} {c_v_goes : (Nat → Nat → Int32)} {c_v_row : (Nat → Int32)} {c_w_all : Int32} {c_w_mass : (Nat → Nat → Int32)} {c_g_picks : (Nat → Nat → Int32)} {c_g_many : (Nat → Int32)} {c_g_table : (Nat → Nat → Int64)} {c_g_rowNames : (Nat → Int32)} {c_g_columnNames : (Nat → Int32)} {c_g_rows : Int32} {c_g_columns : Int32} {c_g_scale : Int64} {v : Int32 × (Nat → Nat → Int32) × (Nat → Int32)} (hf : F9_note x1 x2 c_n_many c_nt_seen c_nt_many = some v) : xCt l yX9_note ((some .int)) j9_note [.ref 0, .int x1, .int x2] (hXx c_chance c_n_fields c_n_ties c_n_worth c_n_forces c_n_many c_n_codes c_n_b_list c_n_b_many c_n_p_list c_n_p_weights c_n_p_drawn c_n_p_many c_n_p_all c_n_p_turns c_l_fault c_l_t_bytes c_l_t_many c_l_t_kind c_l_t_from c_l_t_behind c_l_t_end c_l_s_fields c_l_s_ties c_l_s_worth c_l_s_forces c_l_s_many c_l_s_codes c_l_s_b_list c_l_s_b_many c_l_s_p_list c_l_s_p_weights c_l_s_p_drawn c_l_s_p_many c_l_s_p_all c_l_s_p_turns c_nt_seen c_nt_many c_v_kept c_v_many c_v_turns c_v_stale c_v_goes c_v_row c_w_all c_w_mass c_g_picks c_g_many c_g_table c_g_rowNames c_g_columnNames c_g_rows c_g_columns c_g_scale) (some (.int v.1)) (hXx c_chance c_n_fields c_n_ties c_n_worth c_n_forces c_n_many c_n_codes c_n_b_list c_n_b_many c_n_p_list c_n_p_weights c_n_p_drawn c_n_p_many c_n_p_all c_n_p_turns c_l_fault c_l_t_bytes c_l_t_many c_l_t_kind c_l_t_from c_l_t_behind c_l_t_end c_l_s_fields c_l_s_ties c_l_s_worth c_l_s_forces c_l_s_many c_l_s_codes c_l_s_b_list c_l_s_b_many c_l_s_p_list c_l_s_p_weights c_l_s_p_drawn c_l_s_p_many c_l_s_p_all c_l_s_p_turns v.2.1 v.2.2 c_v_kept c_v_many c_v_turns c_v_stale c_v_goes c_v_row c_w_all c_w_mass c_g_picks c_g_many c_g_table c_g_rowNames c_g_columnNames c_g_rows c_g_columns c_g_scale) := xCt_of (by decide) rfl (Nat.le_of_ble_eq_true rfl) (fun _ hX => T9_note hX hf)
theorem m9_note : xMd yX9_note RX9 ((some .int)) j9_note 2 := ⟨List.mem_of_getElem? (i := 1252) (by decide +kernel), List.mem_of_getElem? (i := 2) (by decide +kernel), rfl, by decide +kernel⟩
theorem v9_note : xMv yX9_note RX9 := ⟨List.mem_of_getElem? (i := 1250) (by decide +kernel), List.mem_of_getElem? (i := 1251) (by decide +kernel)⟩
theorem f9_312 : xFl RX9 312 2 0 := ⟨_, rfl, by decide, List.mem_of_getElem? (i := 1266) (by decide +kernel)⟩
theorem dX9_against_0 : decode cX9_against 0 = .ok (.iload_n 1, 1) := by decide +kernel
theorem dX9_against_1 : decode cX9_against 1 = .ok (.invokestatic 107, 3) := by decide +kernel
theorem dX9_against_4 : decode cX9_against 4 = .ok (.ifCond .eq 24, 3) := by decide +kernel
theorem dX9_against_7 : decode cX9_against 7 = .ok (.iload_n 2, 1) := by decide +kernel
theorem dX9_against_8 : decode cX9_against 8 = .ok (.invokestatic 204, 3) := by decide +kernel
theorem dX9_against_11 : decode cX9_against 11 = .ok (.ifCond .eq 17, 3) := by decide +kernel
theorem dX9_against_14 : decode cX9_against 14 = .ok (.aload_n 0, 1) := by decide +kernel
theorem dX9_against_15 : decode cX9_against 15 = .ok (.getfield 30, 3) := by decide +kernel
theorem dX9_against_18 : decode cX9_against 18 = .ok (.iconst 1, 1) := by decide +kernel
theorem dX9_against_19 : decode cX9_against 19 = .ok (.iload_n 1, 1) := by decide +kernel
theorem dX9_against_20 : decode cX9_against 20 = .ok (.isub, 1) := by decide +kernel
theorem dX9_against_21 : decode cX9_against 21 = .ok (.aaload, 1) := by decide +kernel
theorem dX9_against_22 : decode cX9_against 22 = .ok (.getfield 310, 3) := by decide +kernel
theorem dX9_against_25 : decode cX9_against 25 = .ok (.ifCond .ne 7, 3) := by decide +kernel
theorem dX9_against_28 : decode cX9_against 28 = .ok (.sipush (-10000), 3) := by decide +kernel
theorem dX9_against_31 : decode cX9_against 31 = .ok (.ireturn, 1) := by decide +kernel
theorem dX9_against_32 : decode cX9_against 32 = .ok (.iconst 1, 1) := by decide +kernel
theorem dX9_against_33 : decode cX9_against 33 = .ok (.iload_n 1, 1) := by decide +kernel
theorem dX9_against_34 : decode cX9_against 34 = .ok (.isub, 1) := by decide +kernel
theorem dX9_against_35 : decode cX9_against 35 = .ok (.istore_n 3, 1) := by decide +kernel
theorem dX9_against_36 : decode cX9_against 36 = .ok (.aload_n 0, 1) := by decide +kernel
theorem dX9_against_37 : decode cX9_against 37 = .ok (.getfield 45, 3) := by decide +kernel
theorem dX9_against_40 : decode cX9_against 40 = .ok (.invokevirtual 291, 3) := by decide +kernel
theorem dX9_against_43 : decode cX9_against 43 = .ok (.iconst 0, 1) := by decide +kernel
theorem dX9_against_44 : decode cX9_against 44 = .ok (.istore 4, 2) := by decide +kernel
theorem dX9_against_46 : decode cX9_against 46 = .ok (.iload 4, 2) := by decide +kernel
theorem dX9_against_48 : decode cX9_against 48 = .ok (.aload_n 0, 1) := by decide +kernel
theorem dX9_against_49 : decode cX9_against 49 = .ok (.getfield 12, 3) := by decide +kernel
theorem dX9_against_52 : decode cX9_against 52 = .ok (.getfield 123, 3) := by decide +kernel
theorem dX9_against_55 : decode cX9_against 55 = .ok (.iload_n 3, 1) := by decide +kernel
theorem dX9_against_56 : decode cX9_against 56 = .ok (.iaload, 1) := by decide +kernel
theorem dX9_against_57 : decode cX9_against 57 = .ok (.if_icmp .ge 44, 3) := by decide +kernel
theorem dX9_against_60 : decode cX9_against 60 = .ok (.aload_n 0, 1) := by decide +kernel
theorem dX9_against_61 : decode cX9_against 61 = .ok (.getfield 45, 3) := by decide +kernel
theorem dX9_against_64 : decode cX9_against 64 = .ok (.aload_n 0, 1) := by decide +kernel
theorem dX9_against_65 : decode cX9_against 65 = .ok (.getfield 12, 3) := by decide +kernel
theorem dX9_against_68 : decode cX9_against 68 = .ok (.aload_n 0, 1) := by decide +kernel
theorem dX9_against_69 : decode cX9_against 69 = .ok (.getfield 12, 3) := by decide +kernel
theorem dX9_against_72 : decode cX9_against 72 = .ok (.getfield 136, 3) := by decide +kernel
theorem dX9_against_75 : decode cX9_against 75 = .ok (.iload_n 3, 1) := by decide +kernel
theorem dX9_against_76 : decode cX9_against 76 = .ok (.aaload, 1) := by decide +kernel
theorem dX9_against_77 : decode cX9_against 77 = .ok (.iload 4, 2) := by decide +kernel
theorem dX9_against_79 : decode cX9_against 79 = .ok (.iaload, 1) := by decide +kernel
theorem dX9_against_80 : decode cX9_against 80 = .ok (.aload_n 0, 1) := by decide +kernel
theorem dX9_against_81 : decode cX9_against 81 = .ok (.getfield 30, 3) := by decide +kernel
theorem dX9_against_84 : decode cX9_against 84 = .ok (.iload_n 3, 1) := by decide +kernel
theorem dX9_against_85 : decode cX9_against 85 = .ok (.aaload, 1) := by decide +kernel
theorem dX9_against_86 : decode cX9_against 86 = .ok (.getfield 312, 3) := by decide +kernel
theorem dX9_against_89 : decode cX9_against 89 = .ok (.iload 4, 2) := by decide +kernel
theorem dX9_against_91 : decode cX9_against 91 = .ok (.iaload, 1) := by decide +kernel
theorem dX9_against_92 : decode cX9_against 92 = .ok (.invokevirtual 292, 3) := by decide +kernel
theorem dX9_against_95 : decode cX9_against 95 = .ok (.iinc 4 1, 3) := by decide +kernel
theorem dX9_against_98 : decode cX9_against 98 = .ok (.goto (-52), 3) := by decide +kernel
theorem dX9_against_101 : decode cX9_against 101 = .ok (.iload_n 2, 1) := by decide +kernel
theorem dX9_against_102 : decode cX9_against 102 = .ok (.ifCond .ne 11, 3) := by decide +kernel
theorem dX9_against_105 : decode cX9_against 105 = .ok (.aload_n 0, 1) := by decide +kernel
theorem dX9_against_106 : decode cX9_against 106 = .ok (.iload_n 3, 1) := by decide +kernel
theorem dX9_against_107 : decode cX9_against 107 = .ok (.invokevirtual 278, 3) := by decide +kernel
theorem dX9_against_110 : decode cX9_against 110 = .ok (.goto 9, 3) := by decide +kernel
theorem dX9_against_113 : decode cX9_against 113 = .ok (.aload_n 0, 1) := by decide +kernel
theorem dX9_against_114 : decode cX9_against 114 = .ok (.iload_n 3, 1) := by decide +kernel
theorem dX9_against_115 : decode cX9_against 115 = .ok (.invokevirtual 272, 3) := by decide +kernel
theorem dX9_against_118 : decode cX9_against 118 = .ok (.ineg, 1) := by decide +kernel
theorem dX9_against_119 : decode cX9_against 119 = .ok (.ireturn, 1) := by decide +kernel
abbrev j9_against : xJ := (cX9_against, 5, RX9, 5, 0, 0)
def F9_against_b101 (z : Nat) (x2 : Int32) (x3 : Int32) (c_n_fields : Int32) (c_n_ties : Int32) (c_n_worth : (Nat → Int32)) (c_n_many : (Nat → Int32)) (c_n_codes : (Nat → Nat → Int32)) (c_nt_seen : (Nat → Nat → Int32)) (c_nt_many : (Nat → Int32)) (c_w_all : Int32) (c_w_mass : (Nat → Nat → Int32)) : Option (Int32 × Int32 × (Nat → Nat → Int32)) :=
  if x2 = 0 then ((F9_replyToSpread z x3 c_n_fields c_n_ties c_n_worth c_n_many c_n_codes c_w_mass).bind (fun v107 => some (v107, c_w_all, c_w_mass))) else ((F9_leastOfSpread z x3 c_n_fields c_n_ties c_n_worth c_n_many c_n_codes c_w_mass).bind (fun v115 => some ((-v115), c_w_all, c_w_mass)))
theorem T9_against_b101 {X : xX} {c_chance : Int32} {c_n_forces : (Nat → Int32)} {c_n_b_list : (Nat → Nat → Int32)} {c_n_b_many : (Nat → Int32)} {c_n_p_list : (Nat → Nat → Int32)} {c_n_p_weights : (Nat → Nat → Int32)} {c_n_p_drawn : (Nat → Nat → Int32)} {c_n_p_many : (Nat → Int32)} {c_n_p_all : (Nat → Int32)} {c_n_p_turns : (Nat → Int32)} {c_l_fault : Int32} {c_l_t_bytes : (Nat → Int32)} {c_l_t_many : Int32} {c_l_t_kind : Int32} {c_l_t_from : Int32} {c_l_t_behind : Int32} {c_l_t_end : Int32} {c_l_s_fields : Int32} {c_l_s_ties : Int32} {c_l_s_worth : (Nat → Int32)} {c_l_s_forces : (Nat → Int32)} {c_l_s_many : (Nat → Int32)} {c_l_s_codes : (Nat → Nat → Int32)} {c_l_s_b_list : (Nat → Nat → Int32)} {c_l_s_b_many : (Nat → Int32)} {c_l_s_p_list : (Nat → Nat → Int32)} {c_l_s_p_weights : (Nat → Nat → Int32)} {c_l_s_p_drawn : (Nat → Nat → Int32)} {c_l_s_p_many : (Nat → Int32)} {c_l_s_p_all : (Nat → Int32)} {c_l_s_p_turns : (Nat → Int32)} {c_v_kept : (Nat → Nat → Int32)} {c_v_many : (Nat → Int32)} {c_v_turns : Int32} {c_v_stale : Int32} {c_v_goes : (Nat → Nat → Int32)} {c_v_row : (Nat → Int32)} {c_g_picks : (Nat → Nat → Int32)} {c_g_many : (Nat → Int32)} {c_g_table : (Nat → Nat → Int64)} {c_g_rowNames : (Nat → Int32)} {c_g_columnNames : (Nat → Int32)} {c_g_rows : Int32} {c_g_columns : Int32} {c_g_scale : Int64} {x2 : Int32} {x3 : Int32} {c_n_fields : Int32} {c_n_ties : Int32} {c_n_worth : (Nat → Int32)} {c_n_many : (Nat → Int32)} {c_n_codes : (Nat → Nat → Int32)} {c_nt_seen : (Nat → Nat → Int32)} {c_nt_many : (Nat → Int32)} {c_w_all : Int32} {c_w_mass : (Nat → Nat → Int32)} {z : Nat} {v : Int32 × Int32 × (Nat → Nat → Int32)} (hX : xIs (j9_against) X ((some .int)) (some (.int v.1)) (hXx c_chance c_n_fields c_n_ties c_n_worth c_n_forces c_n_many c_n_codes c_n_b_list c_n_b_many c_n_p_list c_n_p_weights c_n_p_drawn c_n_p_many c_n_p_all c_n_p_turns c_l_fault c_l_t_bytes c_l_t_many c_l_t_kind c_l_t_from c_l_t_behind c_l_t_end c_l_s_fields c_l_s_ties c_l_s_worth c_l_s_forces c_l_s_many c_l_s_codes c_l_s_b_list c_l_s_b_many c_l_s_p_list c_l_s_p_weights c_l_s_p_drawn c_l_s_p_many c_l_s_p_all c_l_s_p_turns c_nt_seen c_nt_many c_v_kept c_v_many c_v_turns c_v_stale c_v_goes c_v_row v.2.1 v.2.2 c_g_picks c_g_many c_g_table c_g_rowNames c_g_columnNames c_g_rows c_g_columns c_g_scale)) (hf : F9_against_b101 z x2 x3 c_n_fields c_n_ties c_n_worth c_n_many c_n_codes c_nt_seen c_nt_many c_w_all c_w_mass = some v) : xV (j9_against) X 0 0 (hXx c_chance c_n_fields c_n_ties c_n_worth c_n_forces c_n_many c_n_codes c_n_b_list c_n_b_many c_n_p_list c_n_p_weights c_n_p_drawn c_n_p_many c_n_p_all c_n_p_turns c_l_fault c_l_t_bytes c_l_t_many c_l_t_kind c_l_t_from c_l_t_behind c_l_t_end c_l_s_fields c_l_s_ties c_l_s_worth c_l_s_forces c_l_s_many c_l_s_codes c_l_s_b_list c_l_s_b_many c_l_s_p_list c_l_s_p_weights c_l_s_p_drawn c_l_s_p_many c_l_s_p_all c_l_s_p_turns c_nt_seen c_nt_many c_v_kept c_v_many c_v_turns c_v_stale c_v_goes c_v_row c_w_all c_w_mass c_g_picks c_g_many c_g_table c_g_rowNames c_g_columnNames c_g_rows c_g_columns c_g_scale) 101 [(0, .ref 0), (2, .int x2), (3, .int x3)] [] := by
  unfold F9_against_b101 at hf
  refine xV_iload_n 102 rfl dX9_against_101 rfl 1 rfl ?_
  refine xV_if_ne (tgt := 113) 105 rfl dX9_against_102 (by decide) (fun h102 => ?_) (fun h102 => ?_)
  · have hf := xif_f hf h102
    refine xV_aload_n 114 rfl dX9_against_113 rfl 0 rfl ?_
    refine xV_iload_n 115 rfl dX9_against_114 rfl 2 rfl ?_
    obtain ⟨v115, hv115, hf⟩ := xb_s hf
    refine xV_same (rest := []) 118 rfl dX9_against_115 rfl (C9_leastOfSpread X.1.2.1 hv115) m9_leastOfSpread v9_leastOfSpread k9_272 rfl rfl rfl rfl rfl (Nat.le_of_ble_eq_true rfl) (Nat.le_of_ble_eq_true rfl) (Nat.le_of_ble_eq_true rfl) ⟨Nat.le_refl _, Nat.le_refl _⟩ ?_
    show xV (j9_against) X 0 0 (hXx c_chance c_n_fields c_n_ties c_n_worth c_n_forces c_n_many c_n_codes c_n_b_list c_n_b_many c_n_p_list c_n_p_weights c_n_p_drawn c_n_p_many c_n_p_all c_n_p_turns c_l_fault c_l_t_bytes c_l_t_many c_l_t_kind c_l_t_from c_l_t_behind c_l_t_end c_l_s_fields c_l_s_ties c_l_s_worth c_l_s_forces c_l_s_many c_l_s_codes c_l_s_b_list c_l_s_b_many c_l_s_p_list c_l_s_p_weights c_l_s_p_drawn c_l_s_p_many c_l_s_p_all c_l_s_p_turns c_nt_seen c_nt_many c_v_kept c_v_many c_v_turns c_v_stale c_v_goes c_v_row c_w_all c_w_mass c_g_picks c_g_many c_g_table c_g_rowNames c_g_columnNames c_g_rows c_g_columns c_g_scale) 118 [(0, .ref 0), (2, .int x2), (3, .int x3)] [.int v115]
    refine xV_ineg 119 rfl dX9_against_118 ?_
    obtain rfl := Option.some.inj hf
    exact xV_iret hX dX9_against_119 rfl (Nat.zero_le _) (Nat.zero_le _)
  · have hf := xif_t hf h102
    refine xV_aload_n 106 rfl dX9_against_105 rfl 0 rfl ?_
    refine xV_iload_n 107 rfl dX9_against_106 rfl 2 rfl ?_
    obtain ⟨v107, hv107, hf⟩ := xb_s hf
    refine xV_same (rest := []) 110 rfl dX9_against_107 rfl (C9_replyToSpread X.1.2.1 hv107) m9_replyToSpread v9_replyToSpread k9_278 rfl rfl rfl rfl rfl (Nat.le_of_ble_eq_true rfl) (Nat.le_of_ble_eq_true rfl) (Nat.le_of_ble_eq_true rfl) ⟨Nat.le_refl _, Nat.le_refl _⟩ ?_
    show xV (j9_against) X 0 0 (hXx c_chance c_n_fields c_n_ties c_n_worth c_n_forces c_n_many c_n_codes c_n_b_list c_n_b_many c_n_p_list c_n_p_weights c_n_p_drawn c_n_p_many c_n_p_all c_n_p_turns c_l_fault c_l_t_bytes c_l_t_many c_l_t_kind c_l_t_from c_l_t_behind c_l_t_end c_l_s_fields c_l_s_ties c_l_s_worth c_l_s_forces c_l_s_many c_l_s_codes c_l_s_b_list c_l_s_b_many c_l_s_p_list c_l_s_p_weights c_l_s_p_drawn c_l_s_p_many c_l_s_p_all c_l_s_p_turns c_nt_seen c_nt_many c_v_kept c_v_many c_v_turns c_v_stale c_v_goes c_v_row c_w_all c_w_mass c_g_picks c_g_many c_g_table c_g_rowNames c_g_columnNames c_g_rows c_g_columns c_g_scale) 110 [(0, .ref 0), (2, .int x2), (3, .int x3)] [.int v107]
    refine xV_goto (tgt := 119) dX9_against_110 (by decide) ?_
    obtain rfl := Option.some.inj hf
    exact xV_iret hX dX9_against_119 rfl (Nat.zero_le _) (Nat.zero_le _)
def F9_against_b46 (z : Nat) (w : Nat) (x2 : Int32) (x3 : Int32) (x4 : Int32) (c_n_fields : Int32) (c_n_ties : Int32) (c_n_worth : (Nat → Int32)) (c_n_many : (Nat → Int32)) (c_n_codes : (Nat → Nat → Int32)) (c_nt_seen : (Nat → Nat → Int32)) (c_nt_many : (Nat → Int32)) (c_w_all : Int32) (c_w_mass : (Nat → Nat → Int32)) : Option (Int32 × Int32 × (Nat → Nat → Int32)) := match w with
  | 0 => none
  | w + 1 => xg (xin x3 2) (if (c_n_many (xn x3)) ≤ x4 then (F9_against_b101 z x2 x3 c_n_fields c_n_ties c_n_worth c_n_many c_n_codes c_nt_seen c_nt_many c_w_all c_w_mass) else (xg (xin x3 2) (xg (xin x4 120) (xg (xin x3 2) (xg (xin x4 120) ((F6_lay z ((c_n_codes (xn x3)) (xn x4)) ((c_nt_seen (xn x3)) (xn x4)) c_w_all c_w_mass c_n_fields).bind (fun v92 => F9_against_b46 z w x2 x3 (x4 + (1 : Int32)) c_n_fields c_n_ties c_n_worth c_n_many c_n_codes c_nt_seen c_nt_many v92.1 v92.2)))))))
theorem T9_against_b46 {X : xX} {c_chance : Int32} {c_n_fields : Int32} {c_n_ties : Int32} {c_n_worth : (Nat → Int32)} {c_n_forces : (Nat → Int32)} {c_n_many : (Nat → Int32)} {c_n_codes : (Nat → Nat → Int32)} {c_n_b_list : (Nat → Nat → Int32)} {c_n_b_many : (Nat → Int32)} {c_n_p_list : (Nat → Nat → Int32)} {c_n_p_weights : (Nat → Nat → Int32)} {c_n_p_drawn : (Nat → Nat → Int32)} {c_n_p_many : (Nat → Int32)} {c_n_p_all : (Nat → Int32)} {c_n_p_turns : (Nat → Int32)} {c_l_fault : Int32} {c_l_t_bytes : (Nat → Int32)} {c_l_t_many : Int32} {c_l_t_kind : Int32} {c_l_t_from : Int32} {c_l_t_behind : Int32} {c_l_t_end : Int32} {c_l_s_fields : Int32} {c_l_s_ties : Int32} {c_l_s_worth : (Nat → Int32)} {c_l_s_forces : (Nat → Int32)} {c_l_s_many : (Nat → Int32)} {c_l_s_codes : (Nat → Nat → Int32)} {c_l_s_b_list : (Nat → Nat → Int32)} {c_l_s_b_many : (Nat → Int32)} {c_l_s_p_list : (Nat → Nat → Int32)} {c_l_s_p_weights : (Nat → Nat → Int32)} {c_l_s_p_drawn : (Nat → Nat → Int32)} {c_l_s_p_many : (Nat → Int32)} {c_l_s_p_all : (Nat → Int32)} {c_l_s_p_turns : (Nat → Int32)} {c_nt_seen : (Nat → Nat → Int32)} {c_nt_many : (Nat → Int32)} {c_v_kept : (Nat → Nat → Int32)} {c_v_many : (Nat → Int32)} {c_v_turns : Int32} {c_v_stale : Int32} {c_v_goes : (Nat → Nat → Int32)} {c_v_row : (Nat → Int32)} {c_g_picks : (Nat → Nat → Int32)} {c_g_many : (Nat → Int32)} {c_g_table : (Nat → Nat → Int64)} {c_g_rowNames : (Nat → Int32)} {c_g_columnNames : (Nat → Int32)} {c_g_rows : Int32} {c_g_columns : Int32} {c_g_scale : Int64} {z : Nat} {v : Int32 × Int32 × (Nat → Nat → Int32)} (hX : xIs (j9_against) X ((some .int)) (some (.int v.1)) (hXx c_chance c_n_fields c_n_ties c_n_worth c_n_forces c_n_many c_n_codes c_n_b_list c_n_b_many c_n_p_list c_n_p_weights c_n_p_drawn c_n_p_many c_n_p_all c_n_p_turns c_l_fault c_l_t_bytes c_l_t_many c_l_t_kind c_l_t_from c_l_t_behind c_l_t_end c_l_s_fields c_l_s_ties c_l_s_worth c_l_s_forces c_l_s_many c_l_s_codes c_l_s_b_list c_l_s_b_many c_l_s_p_list c_l_s_p_weights c_l_s_p_drawn c_l_s_p_many c_l_s_p_all c_l_s_p_turns c_nt_seen c_nt_many c_v_kept c_v_many c_v_turns c_v_stale c_v_goes c_v_row v.2.1 v.2.2 c_g_picks c_g_many c_g_table c_g_rowNames c_g_columnNames c_g_rows c_g_columns c_g_scale)) : ∀ (w : Nat) {x2 : Int32} {x3 : Int32} {x4 : Int32} {c_w_all : Int32} {c_w_mass : (Nat → Nat → Int32)}, F9_against_b46 z w x2 x3 x4 c_n_fields c_n_ties c_n_worth c_n_many c_n_codes c_nt_seen c_nt_many c_w_all c_w_mass = some v → xV (j9_against) X 0 0 (hXx c_chance c_n_fields c_n_ties c_n_worth c_n_forces c_n_many c_n_codes c_n_b_list c_n_b_many c_n_p_list c_n_p_weights c_n_p_drawn c_n_p_many c_n_p_all c_n_p_turns c_l_fault c_l_t_bytes c_l_t_many c_l_t_kind c_l_t_from c_l_t_behind c_l_t_end c_l_s_fields c_l_s_ties c_l_s_worth c_l_s_forces c_l_s_many c_l_s_codes c_l_s_b_list c_l_s_b_many c_l_s_p_list c_l_s_p_weights c_l_s_p_drawn c_l_s_p_many c_l_s_p_all c_l_s_p_turns c_nt_seen c_nt_many c_v_kept c_v_many c_v_turns c_v_stale c_v_goes c_v_row c_w_all c_w_mass c_g_picks c_g_many c_g_table c_g_rowNames c_g_columnNames c_g_rows c_g_columns c_g_scale) 46 [(0, .ref 0), (2, .int x2), (3, .int x3), (4, .int x4)] [] := by
  intro w
  induction w with
  | zero => intro x2 x3 x4 c_w_all c_w_mass hf; cases hf
  | succ w ih =>
    intro x2 x3 x4 c_w_all c_w_mass hf
    unfold F9_against_b46 at hf
    refine xV_iload 48 rfl dX9_against_46 3 rfl ?_
    refine xV_aload_n 49 rfl dX9_against_48 rfl 0 rfl ?_
    refine xV_get (v := .ref 1) 52 rfl dX9_against_49 f9_12 rfl rfl ?_
    refine xV_get (v := .ref 4) 55 rfl dX9_against_52 f9_123 rfl rfl ?_
    refine xV_iload_n 56 rfl dX9_against_55 rfl 2 rfl ?_
    obtain ⟨hg56, hf⟩ := xg_s hf
    refine xV_iaload 57 rfl dX9_against_56 rfl (xin_ok hg56) rfl ?_
    refine xV_icmp_ge (tgt := 101) 60 rfl dX9_against_57 (by decide) (fun h57 => ?_) (fun h57 => ?_)
    · have hf := xif_t hf h57
      refine xV_sub [0, 1, 2] rfl ?_
      exact T9_against_b101 hX hf
    · have hf := xif_f hf h57
      refine xV_aload_n 61 rfl dX9_against_60 rfl 0 rfl ?_
      refine xV_get (v := .ref 60) 64 rfl dX9_against_61 f9_45 rfl rfl ?_
      refine xV_aload_n 65 rfl dX9_against_64 rfl 0 rfl ?_
      refine xV_get (v := .ref 1) 68 rfl dX9_against_65 f9_12 rfl rfl ?_
      refine xV_aload_n 69 rfl dX9_against_68 rfl 0 rfl ?_
      refine xV_get (v := .ref 1) 72 rfl dX9_against_69 f9_12 rfl rfl ?_
      refine xV_get (v := .ref 5) 75 rfl dX9_against_72 f9_136 rfl rfl ?_
      refine xV_iload_n 76 rfl dX9_against_75 rfl 2 rfl ?_
      obtain ⟨hg76, hf⟩ := xg_s hf
      refine xV_aaload (b := (6 + (xn x3))) 77 rfl dX9_against_76 rfl rfl rfl (xin_ok hg76) (by show ([6, 7] : List Nat)[(xn x3)]? = some (6 + (xn x3)); have hi := xin_lt hg76; generalize (xn x3) = i at hi ⊢; match i, hi with | 0, _ => rfl | 1, _ => rfl) ?_
      refine xV_iload 79 rfl dX9_against_77 3 rfl ?_
      obtain ⟨hg79, hf⟩ := xg_s hf
      refine xV_iaload (f := (c_n_codes (xn x3))) (z := 120) 80 rfl dX9_against_79 (by have hi := (xin_lt hg76); generalize (xn x3) = i at hi ⊢; match i, hi with | 0, _ => exact rfl | 1, _ => exact rfl) (xin_ok hg79) rfl ?_
      refine xV_aload_n 81 rfl dX9_against_80 rfl 0 rfl ?_
      refine xV_get (v := .ref 46) 84 rfl dX9_against_81 f9_30 rfl rfl ?_
      refine xV_iload_n 85 rfl dX9_against_84 rfl 2 rfl ?_
      obtain ⟨hg85, hf⟩ := xg_s hf
      refine xV_aaload (b := (47 + 2 * (xn x3))) 86 rfl dX9_against_85 rfl rfl rfl (xin_ok hg85) (by show ([47, 49] : List Nat)[(xn x3)]? = some (47 + 2 * (xn x3)); have hi := xin_lt hg85; generalize (xn x3) = i at hi ⊢; match i, hi with | 0, _ => rfl | 1, _ => rfl) ?_
      refine xV_get (v := .ref (48 + 2 * (xn x3))) (fs := [.ref (48 + 2 * (xn x3)), .int (c_nt_many (xn x3))]) 89 rfl dX9_against_86 f9_312 (by have hi := (xin_lt hg85); generalize (xn x3) = i at hi ⊢; match i, hi with | 0, _ => exact rfl | 1, _ => exact rfl) rfl ?_
      refine xV_iload 91 rfl dX9_against_89 3 rfl ?_
      obtain ⟨hg91, hf⟩ := xg_s hf
      refine xV_iaload (f := (c_nt_seen (xn x3))) (z := 120) 92 rfl dX9_against_91 (by have hi := (xin_lt hg85); generalize (xn x3) = i at hi ⊢; match i, hi with | 0, _ => exact rfl | 1, _ => exact rfl) (xin_ok hg91) rfl ?_
      obtain ⟨v92, hv92, hf⟩ := xb_s hf
      refine xV_vir2 (g := (fun j => if j < 6 then 60 + j else 1 + (j - 6))) (hl := (hWS c_w_all c_w_mass c_n_fields c_n_ties c_n_worth c_n_forces c_n_many c_n_codes c_n_b_list c_n_b_many c_n_p_list c_n_p_weights c_n_p_drawn c_n_p_many c_n_p_all c_n_p_turns)) (hl' := (hWS v92.1 v92.2 c_n_fields c_n_ties c_n_worth c_n_forces c_n_many c_n_codes c_n_b_list c_n_b_many c_n_p_list c_n_p_weights c_n_p_drawn c_n_p_many c_n_p_all c_n_p_turns)) (h' := (hXx c_chance c_n_fields c_n_ties c_n_worth c_n_forces c_n_many c_n_codes c_n_b_list c_n_b_many c_n_p_list c_n_p_weights c_n_p_drawn c_n_p_many c_n_p_all c_n_p_turns c_l_fault c_l_t_bytes c_l_t_many c_l_t_kind c_l_t_from c_l_t_behind c_l_t_end c_l_s_fields c_l_s_ties c_l_s_worth c_l_s_forces c_l_s_many c_l_s_codes c_l_s_b_list c_l_s_b_many c_l_s_p_list c_l_s_p_weights c_l_s_p_drawn c_l_s_p_many c_l_s_p_all c_l_s_p_turns c_nt_seen c_nt_many c_v_kept c_v_many c_v_turns c_v_stale c_v_goes c_v_row v92.1 v92.2 c_g_picks c_g_many c_g_table c_g_rowNames c_g_columnNames c_g_rows c_g_columns c_g_scale)) (rest := []) (ci := 6) 95 rfl dX9_against_92 rfl (C6_lay X.1.2.1 hv92) m6_lay v6_lay k9_292 rfl rfl rfl (e_Xx_WS_L60_L1) rfl (Nat.le_of_ble_eq_true rfl) (Nat.le_of_ble_eq_true rfl) (Nat.le_of_ble_eq_true rfl) ⟨Nat.le_refl _, Nat.le_refl _⟩ ?_
      show xV (j9_against) X 0 0 (hXx c_chance c_n_fields c_n_ties c_n_worth c_n_forces c_n_many c_n_codes c_n_b_list c_n_b_many c_n_p_list c_n_p_weights c_n_p_drawn c_n_p_many c_n_p_all c_n_p_turns c_l_fault c_l_t_bytes c_l_t_many c_l_t_kind c_l_t_from c_l_t_behind c_l_t_end c_l_s_fields c_l_s_ties c_l_s_worth c_l_s_forces c_l_s_many c_l_s_codes c_l_s_b_list c_l_s_b_many c_l_s_p_list c_l_s_p_weights c_l_s_p_drawn c_l_s_p_many c_l_s_p_all c_l_s_p_turns c_nt_seen c_nt_many c_v_kept c_v_many c_v_turns c_v_stale c_v_goes c_v_row v92.1 v92.2 c_g_picks c_g_many c_g_table c_g_rowNames c_g_columnNames c_g_rows c_g_columns c_g_scale) 95 [(0, .ref 0), (2, .int x2), (3, .int x3), (4, .int x4)] []
      refine xV_iinc (L' := [(4, .int (x4 + (1 : Int32))), (0, .ref 0), (2, .int x2), (3, .int x3)]) 98 rfl dX9_against_95 3 rfl (xk_inc xy_i1) (xlt rfl) rfl ?_
      refine xV_goto (tgt := 46) dX9_against_98 (by decide) ?_
      refine xV_sub [1, 2, 3, 0] rfl ?_
      exact ih hf
def F9_against (z : Nat) (x1 : Int32) (x2 : Int32) (c_n_fields : Int32) (c_n_ties : Int32) (c_n_worth : (Nat → Int32)) (c_n_many : (Nat → Int32)) (c_n_codes : (Nat → Nat → Int32)) (c_nt_seen : (Nat → Nat → Int32)) (c_nt_many : (Nat → Int32)) (c_w_all : Int32) (c_w_mass : (Nat → Nat → Int32)) : Option (Int32 × Int32 × (Nat → Nat → Int32)) :=
  (F9_isSide x1).bind (fun v1 => if v1 = 0 then (some ((-10000 : Int32), c_w_all, c_w_mass)) else ((F9_isPart x2).bind (fun v8 => if v8 = 0 then (some ((-10000 : Int32), c_w_all, c_w_mass)) else (xg (xin ((1 : Int32) - x1) 2) (if (c_nt_many (xn ((1 : Int32) - x1))) = 0 then (some ((-10000 : Int32), c_w_all, c_w_mass)) else ((F6_clear z c_w_all c_w_mass).bind (fun v40 => F9_against_b46 z z x2 ((1 : Int32) - x1) (0 : Int32) c_n_fields c_n_ties c_n_worth c_n_many c_n_codes c_nt_seen c_nt_many v40.1 v40.2)))))))
theorem T9_against {X : xX} {z : Nat} {x1 : Int32} {x2 : Int32} {c_n_fields : Int32} {c_n_ties : Int32} {c_n_worth : (Nat → Int32)} {c_n_many : (Nat → Int32)} {c_n_codes : (Nat → Nat → Int32)} {c_nt_seen : (Nat → Nat → Int32)} {c_nt_many : (Nat → Int32)} {c_w_all : Int32} {c_w_mass : (Nat → Nat → Int32)} {c_chance : Int32} {c_n_forces : (Nat → Int32)} {c_n_b_list : (Nat → Nat → Int32)} {c_n_b_many : (Nat → Int32)} {c_n_p_list : (Nat → Nat → Int32)} {c_n_p_weights : (Nat → Nat → Int32)} {c_n_p_drawn : (Nat → Nat → Int32)} {c_n_p_many : (Nat → Int32)} {c_n_p_all : (Nat → Int32)} {c_n_p_turns : (Nat → Int32)} {c_l_fault : Int32} {c_l_t_bytes : (Nat → Int32)} {c_l_t_many : Int32} {c_l_t_kind : Int32} {c_l_t_from : Int32} {c_l_t_behind : Int32} {c_l_t_end : Int32} {c_l_s_fields : Int32} {c_l_s_ties : Int32} {c_l_s_worth : (Nat → Int32)} {c_l_s_forces : (Nat → Int32)} {c_l_s_many : (Nat → Int32)} {c_l_s_codes : (Nat → Nat → Int32)} {c_l_s_b_list : (Nat → Nat → Int32)} {c_l_s_b_many : (Nat → Int32)} {c_l_s_p_list : (Nat → Nat → Int32)} {c_l_s_p_weights : (Nat → Nat → Int32)} {c_l_s_p_drawn : (Nat → Nat → Int32)} {c_l_s_p_many : (Nat → Int32)} {c_l_s_p_all : (Nat → Int32)} {c_l_s_p_turns : (Nat → Int32)} {c_v_kept : (Nat → Nat → Int32)} {c_v_many : (Nat → Int32)} {c_v_turns : Int32} {c_v_stale : Int32} {c_v_goes : (Nat → Nat → Int32)} {c_v_row : (Nat → Int32)} {c_g_picks : (Nat → Nat → Int32)} {c_g_many : (Nat → Int32)} {c_g_table : (Nat → Nat → Int64)} {c_g_rowNames : (Nat → Int32)} {c_g_columnNames : (Nat → Int32)} {c_g_rows : Int32} {c_g_columns : Int32} {c_g_scale : Int64} {v : Int32 × Int32 × (Nat → Nat → Int32)} (hX : xIs (j9_against) X ((some .int)) (some (.int v.1)) (hXx c_chance c_n_fields c_n_ties c_n_worth c_n_forces c_n_many c_n_codes c_n_b_list c_n_b_many c_n_p_list c_n_p_weights c_n_p_drawn c_n_p_many c_n_p_all c_n_p_turns c_l_fault c_l_t_bytes c_l_t_many c_l_t_kind c_l_t_from c_l_t_behind c_l_t_end c_l_s_fields c_l_s_ties c_l_s_worth c_l_s_forces c_l_s_many c_l_s_codes c_l_s_b_list c_l_s_b_many c_l_s_p_list c_l_s_p_weights c_l_s_p_drawn c_l_s_p_many c_l_s_p_all c_l_s_p_turns c_nt_seen c_nt_many c_v_kept c_v_many c_v_turns c_v_stale c_v_goes c_v_row v.2.1 v.2.2 c_g_picks c_g_many c_g_table c_g_rowNames c_g_columnNames c_g_rows c_g_columns c_g_scale)) (hf : F9_against z x1 x2 c_n_fields c_n_ties c_n_worth c_n_many c_n_codes c_nt_seen c_nt_many c_w_all c_w_mass = some v) : xV (j9_against) X 0 0 (hXx c_chance c_n_fields c_n_ties c_n_worth c_n_forces c_n_many c_n_codes c_n_b_list c_n_b_many c_n_p_list c_n_p_weights c_n_p_drawn c_n_p_many c_n_p_all c_n_p_turns c_l_fault c_l_t_bytes c_l_t_many c_l_t_kind c_l_t_from c_l_t_behind c_l_t_end c_l_s_fields c_l_s_ties c_l_s_worth c_l_s_forces c_l_s_many c_l_s_codes c_l_s_b_list c_l_s_b_many c_l_s_p_list c_l_s_p_weights c_l_s_p_drawn c_l_s_p_many c_l_s_p_all c_l_s_p_turns c_nt_seen c_nt_many c_v_kept c_v_many c_v_turns c_v_stale c_v_goes c_v_row c_w_all c_w_mass c_g_picks c_g_many c_g_table c_g_rowNames c_g_columnNames c_g_rows c_g_columns c_g_scale) 0 [(0, .ref 0), (1, .int x1), (2, .int x2)] [] := by
  unfold F9_against at hf
  refine xV_iload_n 1 rfl dX9_against_0 rfl 1 rfl ?_
  obtain ⟨v1, hv1, hf⟩ := xb_s hf
  refine xV_st0 (rest := []) 4 rfl dX9_against_1 rfl (C9_isSide X.1.2.1 hv1) m9_isSide s9_isSide k9_107 rfl (Nat.le_of_ble_eq_true rfl) (Nat.le_of_ble_eq_true rfl) (Nat.le_of_ble_eq_true rfl) ⟨Nat.le_refl _, Nat.le_refl _⟩ ?_
  show xV (j9_against) X 0 0 (hXx c_chance c_n_fields c_n_ties c_n_worth c_n_forces c_n_many c_n_codes c_n_b_list c_n_b_many c_n_p_list c_n_p_weights c_n_p_drawn c_n_p_many c_n_p_all c_n_p_turns c_l_fault c_l_t_bytes c_l_t_many c_l_t_kind c_l_t_from c_l_t_behind c_l_t_end c_l_s_fields c_l_s_ties c_l_s_worth c_l_s_forces c_l_s_many c_l_s_codes c_l_s_b_list c_l_s_b_many c_l_s_p_list c_l_s_p_weights c_l_s_p_drawn c_l_s_p_many c_l_s_p_all c_l_s_p_turns c_nt_seen c_nt_many c_v_kept c_v_many c_v_turns c_v_stale c_v_goes c_v_row c_w_all c_w_mass c_g_picks c_g_many c_g_table c_g_rowNames c_g_columnNames c_g_rows c_g_columns c_g_scale) 4 [(0, .ref 0), (1, .int x1), (2, .int x2)] [.int v1]
  refine xV_if_eq (tgt := 28) 7 rfl dX9_against_4 (by decide) (fun h4 => ?_) (fun h4 => ?_)
  · have hf := xif_t hf h4
    refine xV_sipush 31 rfl dX9_against_28 xy_sm10000 ?_
    obtain rfl := Option.some.inj hf
    exact xV_iret hX dX9_against_31 rfl (Nat.zero_le _) (Nat.zero_le _)
  · have hf := xif_f hf h4
    refine xV_iload_n 8 rfl dX9_against_7 rfl 2 rfl ?_
    obtain ⟨v8, hv8, hf⟩ := xb_s hf
    refine xV_st0 (rest := []) 11 rfl dX9_against_8 rfl (C9_isPart X.1.2.1 hv8) m9_isPart s9_isPart k9_204 rfl (Nat.le_of_ble_eq_true rfl) (Nat.le_of_ble_eq_true rfl) (Nat.le_of_ble_eq_true rfl) ⟨Nat.le_refl _, Nat.le_refl _⟩ ?_
    show xV (j9_against) X 0 0 (hXx c_chance c_n_fields c_n_ties c_n_worth c_n_forces c_n_many c_n_codes c_n_b_list c_n_b_many c_n_p_list c_n_p_weights c_n_p_drawn c_n_p_many c_n_p_all c_n_p_turns c_l_fault c_l_t_bytes c_l_t_many c_l_t_kind c_l_t_from c_l_t_behind c_l_t_end c_l_s_fields c_l_s_ties c_l_s_worth c_l_s_forces c_l_s_many c_l_s_codes c_l_s_b_list c_l_s_b_many c_l_s_p_list c_l_s_p_weights c_l_s_p_drawn c_l_s_p_many c_l_s_p_all c_l_s_p_turns c_nt_seen c_nt_many c_v_kept c_v_many c_v_turns c_v_stale c_v_goes c_v_row c_w_all c_w_mass c_g_picks c_g_many c_g_table c_g_rowNames c_g_columnNames c_g_rows c_g_columns c_g_scale) 11 [(0, .ref 0), (1, .int x1), (2, .int x2)] [.int v8]
    refine xV_if_eq (tgt := 28) 14 rfl dX9_against_11 (by decide) (fun h11 => ?_) (fun h11 => ?_)
    · have hf := xif_t hf h11
      refine xV_sipush 31 rfl dX9_against_28 xy_sm10000 ?_
      obtain rfl := Option.some.inj hf
      exact xV_iret hX dX9_against_31 rfl (Nat.zero_le _) (Nat.zero_le _)
    · have hf := xif_f hf h11
      refine xV_aload_n 15 rfl dX9_against_14 rfl 0 rfl ?_
      refine xV_get (v := .ref 46) 18 rfl dX9_against_15 f9_30 rfl rfl ?_
      refine xV_iconst 19 rfl dX9_against_18 xy_i1 ?_
      refine xV_iload_n 20 rfl dX9_against_19 rfl 1 rfl ?_
      refine xV_isub 21 rfl dX9_against_20 ?_
      obtain ⟨hg21, hf⟩ := xg_s hf
      refine xV_aaload (b := (47 + 2 * (xn ((1 : Int32) - x1)))) 22 rfl dX9_against_21 rfl rfl rfl (xin_ok hg21) (by show ([47, 49] : List Nat)[(xn ((1 : Int32) - x1))]? = some (47 + 2 * (xn ((1 : Int32) - x1))); have hi := xin_lt hg21; generalize (xn ((1 : Int32) - x1)) = i at hi ⊢; match i, hi with | 0, _ => rfl | 1, _ => rfl) ?_
      refine xV_get (v := .int (c_nt_many (xn ((1 : Int32) - x1)))) (fs := [.ref (48 + 2 * (xn ((1 : Int32) - x1))), .int (c_nt_many (xn ((1 : Int32) - x1)))]) 25 rfl dX9_against_22 f9_310 (by have hi := (xin_lt hg21); generalize (xn ((1 : Int32) - x1)) = i at hi ⊢; match i, hi with | 0, _ => exact rfl | 1, _ => exact rfl) rfl ?_
      refine xV_if_ne (tgt := 32) 28 rfl dX9_against_25 (by decide) (fun h25 => ?_) (fun h25 => ?_)
      · have hf := xif_f hf h25
        refine xV_iconst 33 rfl dX9_against_32 xy_i1 ?_
        refine xV_iload_n 34 rfl dX9_against_33 rfl 1 rfl ?_
        refine xV_isub 35 rfl dX9_against_34 ?_
        refine xV_istore_n (L' := [(3, .int ((1 : Int32) - x1)), (0, .ref 0), (1, .int x1), (2, .int x2)]) 36 rfl dX9_against_35 rfl (xlt rfl) rfl ?_
        refine xV_aload_n 37 rfl dX9_against_36 rfl 1 rfl ?_
        refine xV_get (v := .ref 60) 40 rfl dX9_against_37 f9_45 rfl rfl ?_
        obtain ⟨v40, hv40, hf⟩ := xb_s hf
        refine xV_vir2 (g := (fun j => 60 + j)) (hl := (hSp c_w_all c_w_mass)) (hl' := (hSp v40.1 v40.2)) (h' := (hXx c_chance c_n_fields c_n_ties c_n_worth c_n_forces c_n_many c_n_codes c_n_b_list c_n_b_many c_n_p_list c_n_p_weights c_n_p_drawn c_n_p_many c_n_p_all c_n_p_turns c_l_fault c_l_t_bytes c_l_t_many c_l_t_kind c_l_t_from c_l_t_behind c_l_t_end c_l_s_fields c_l_s_ties c_l_s_worth c_l_s_forces c_l_s_many c_l_s_codes c_l_s_b_list c_l_s_b_many c_l_s_p_list c_l_s_p_weights c_l_s_p_drawn c_l_s_p_many c_l_s_p_all c_l_s_p_turns c_nt_seen c_nt_many c_v_kept c_v_many c_v_turns c_v_stale c_v_goes c_v_row v40.1 v40.2 c_g_picks c_g_many c_g_table c_g_rowNames c_g_columnNames c_g_rows c_g_columns c_g_scale)) (rest := []) (ci := 6) 43 rfl dX9_against_40 rfl (C6_clear X.1.2.1 hv40) m6_clear v6_clear k9_291 rfl rfl rfl (e_Xx_Sp_L60) rfl (Nat.le_of_ble_eq_true rfl) (Nat.le_of_ble_eq_true rfl) (Nat.le_of_ble_eq_true rfl) ⟨Nat.le_refl _, Nat.le_refl _⟩ ?_
        show xV (j9_against) X 0 0 (hXx c_chance c_n_fields c_n_ties c_n_worth c_n_forces c_n_many c_n_codes c_n_b_list c_n_b_many c_n_p_list c_n_p_weights c_n_p_drawn c_n_p_many c_n_p_all c_n_p_turns c_l_fault c_l_t_bytes c_l_t_many c_l_t_kind c_l_t_from c_l_t_behind c_l_t_end c_l_s_fields c_l_s_ties c_l_s_worth c_l_s_forces c_l_s_many c_l_s_codes c_l_s_b_list c_l_s_b_many c_l_s_p_list c_l_s_p_weights c_l_s_p_drawn c_l_s_p_many c_l_s_p_all c_l_s_p_turns c_nt_seen c_nt_many c_v_kept c_v_many c_v_turns c_v_stale c_v_goes c_v_row v40.1 v40.2 c_g_picks c_g_many c_g_table c_g_rowNames c_g_columnNames c_g_rows c_g_columns c_g_scale) 43 [(3, .int ((1 : Int32) - x1)), (0, .ref 0), (1, .int x1), (2, .int x2)] []
        refine xV_iconst 44 rfl dX9_against_43 xy_i0 ?_
        refine xV_istore (L' := [(4, .int (0 : Int32)), (3, .int ((1 : Int32) - x1)), (0, .ref 0), (1, .int x1), (2, .int x2)]) 46 rfl dX9_against_44 (xlt rfl) rfl ?_
        refine xV_sub [2, 4, 1, 0] rfl ?_
        exact T9_against_b46 hX _ hf
      · have hf := xif_t hf h25
        refine xV_sipush 31 rfl dX9_against_28 xy_sm10000 ?_
        obtain rfl := Option.some.inj hf
        exact xV_iret hX dX9_against_31 rfl (Nat.zero_le _) (Nat.zero_le _)
theorem C9_against (l : Launch) {z : Nat} {x1 : Int32} {x2 : Int32} {c_n_fields : Int32} {c_n_ties : Int32} {c_n_worth : (Nat → Int32)} {c_n_many : (Nat → Int32)} {c_n_codes : (Nat → Nat → Int32)} {c_nt_seen : (Nat → Nat → Int32)} {c_nt_many : (Nat → Int32)} {c_w_all : Int32} {c_w_mass : (Nat → Nat → Int32)} {c_chance : Int32} {c_n_forces : (Nat → Int32)} {c_n_b_list : (Nat → Nat → Int32)} {c_n_b_many : (Nat → Int32)} {c_n_p_list : (Nat → Nat → Int32)} {c_n_p_weights : (Nat → Nat → Int32)} {c_n_p_drawn : (Nat → Nat → Int32)} {c_n_p_many : (Nat → Int32)} {c_n_p_all : (Nat → Int32)} {c_n_p_turns : (Nat → Int32)} {c_l_fault : Int32} {c_l_t_bytes : (Nat → Int32)} {c_l_t_many : Int32} {c_l_t_kind : Int32} {c_l_t_from : Int32} {c_l_t_behind : Int32} {c_l_t_end : Int32} {c_l_s_fields : Int32} {c_l_s_ties : Int32} {c_l_s_worth : (Nat → Int32)} {c_l_s_forces : (Nat → Int32)} {c_l_s_many : (Nat → Int32)} {c_l_s_codes : (Nat → Nat → Int32)} {c_l_s_b_list : (Nat → Nat → Int32)} {c_l_s_b_many : (Nat → Int32)} {c_l_s_p_list : (Nat → Nat → Int32)} {c_l_s_p_weights : (Nat → Nat → Int32)} {c_l_s_p_drawn : (Nat → Nat → Int32)} {c_l_s_p_many : (Nat → Int32)} {c_l_s_p_all : (Nat → Int32)} {c_l_s_p_turns : (Nat → Int32)} {c_v_kept : (Nat → Nat → Int32)} {c_v_many : (Nat → Int32)} {c_v_turns : Int32} {c_v_stale : Int32} {c_v_goes : (Nat → Nat → Int32)} {c_v_row : (Nat → Int32)} {c_g_picks : (Nat → Nat → Int32)} {c_g_many : (Nat → Int32)} {c_g_table : (Nat → Nat → Int64)} {c_g_rowNames : (Nat → Int32)} {c_g_columnNames : (Nat → Int32)} {c_g_rows : Int32} {c_g_columns : Int32} {c_g_scale : Int64} {v : Int32 × Int32 × (Nat → Nat → Int32)} (hf : F9_against z x1 x2 c_n_fields c_n_ties c_n_worth c_n_many c_n_codes c_nt_seen c_nt_many c_w_all c_w_mass = some v) : xCt l yX9_against ((some .int)) j9_against [.ref 0, .int x1, .int x2] (hXx c_chance c_n_fields c_n_ties c_n_worth c_n_forces c_n_many c_n_codes c_n_b_list c_n_b_many c_n_p_list c_n_p_weights c_n_p_drawn c_n_p_many c_n_p_all c_n_p_turns c_l_fault c_l_t_bytes c_l_t_many c_l_t_kind c_l_t_from c_l_t_behind c_l_t_end c_l_s_fields c_l_s_ties c_l_s_worth c_l_s_forces c_l_s_many c_l_s_codes c_l_s_b_list c_l_s_b_many c_l_s_p_list c_l_s_p_weights c_l_s_p_drawn c_l_s_p_many c_l_s_p_all c_l_s_p_turns c_nt_seen c_nt_many c_v_kept c_v_many c_v_turns c_v_stale c_v_goes c_v_row c_w_all c_w_mass c_g_picks c_g_many c_g_table c_g_rowNames c_g_columnNames c_g_rows c_g_columns c_g_scale) (some (.int v.1)) (hXx c_chance c_n_fields c_n_ties c_n_worth c_n_forces c_n_many c_n_codes c_n_b_list c_n_b_many c_n_p_list c_n_p_weights c_n_p_drawn c_n_p_many c_n_p_all c_n_p_turns c_l_fault c_l_t_bytes c_l_t_many c_l_t_kind c_l_t_from c_l_t_behind c_l_t_end c_l_s_fields c_l_s_ties c_l_s_worth c_l_s_forces c_l_s_many c_l_s_codes c_l_s_b_list c_l_s_b_many c_l_s_p_list c_l_s_p_weights c_l_s_p_drawn c_l_s_p_many c_l_s_p_all c_l_s_p_turns c_nt_seen c_nt_many c_v_kept c_v_many c_v_turns c_v_stale c_v_goes c_v_row v.2.1 v.2.2 c_g_picks c_g_many c_g_table c_g_rowNames c_g_columnNames c_g_rows c_g_columns c_g_scale) := xCt_of (by decide) rfl (Nat.le_of_ble_eq_true rfl) (fun _ hX => T9_against hX hf)
theorem m9_against : xMd yX9_against RX9 ((some .int)) j9_against 2 := ⟨List.mem_of_getElem? (i := 1265) (by decide +kernel), List.mem_of_getElem? (i := 2) (by decide +kernel), rfl, by decide +kernel⟩
theorem v9_against : xMv yX9_against RX9 := ⟨List.mem_of_getElem? (i := 1263) (by decide +kernel), List.mem_of_getElem? (i := 1264) (by decide +kernel)⟩
theorem k9_315 : Cond.methodLink RX9 315 yX3_weightOf ∈ wsL_law0 := List.mem_of_getElem? (i := 1282) (by decide +kernel)
theorem k9_318 : Cond.methodLink RX9 318 Lib.Math.abs.name ∈ wsL_law0 := List.mem_of_getElem? (i := 1279) (by decide +kernel)
theorem dX9_apart_0 : decode cX9_apart 0 = .ok (.aload_n 0, 1) := by decide +kernel
theorem dX9_apart_1 : decode cX9_apart 1 = .ok (.iload_n 1, 1) := by decide +kernel
theorem dX9_apart_2 : decode cX9_apart 2 = .ok (.invokevirtual 266, 3) := by decide +kernel
theorem dX9_apart_5 : decode cX9_apart 5 = .ok (.ifCond .eq 22, 3) := by decide +kernel
theorem dX9_apart_8 : decode cX9_apart 8 = .ok (.aload_n 0, 1) := by decide +kernel
theorem dX9_apart_9 : decode cX9_apart 9 = .ok (.getfield 30, 3) := by decide +kernel
theorem dX9_apart_12 : decode cX9_apart 12 = .ok (.iload_n 1, 1) := by decide +kernel
theorem dX9_apart_13 : decode cX9_apart 13 = .ok (.aaload, 1) := by decide +kernel
theorem dX9_apart_14 : decode cX9_apart 14 = .ok (.getfield 310, 3) := by decide +kernel
theorem dX9_apart_17 : decode cX9_apart 17 = .ok (.ifCond .eq 10, 3) := by decide +kernel
theorem dX9_apart_20 : decode cX9_apart 20 = .ok (.iload_n 2, 1) := by decide +kernel
theorem dX9_apart_21 : decode cX9_apart 21 = .ok (.invokestatic 204, 3) := by decide +kernel
theorem dX9_apart_24 : decode cX9_apart 24 = .ok (.ifCond .ne 5, 3) := by decide +kernel
theorem dX9_apart_27 : decode cX9_apart 27 = .ok (.iconst (-1), 1) := by decide +kernel
theorem dX9_apart_28 : decode cX9_apart 28 = .ok (.ireturn, 1) := by decide +kernel
theorem dX9_apart_29 : decode cX9_apart 29 = .ok (.aload_n 0, 1) := by decide +kernel
theorem dX9_apart_30 : decode cX9_apart 30 = .ok (.getfield 12, 3) := by decide +kernel
theorem dX9_apart_33 : decode cX9_apart 33 = .ok (.getfield 77, 3) := by decide +kernel
theorem dX9_apart_36 : decode cX9_apart 36 = .ok (.iload_n 1, 1) := by decide +kernel
theorem dX9_apart_37 : decode cX9_apart 37 = .ok (.aaload, 1) := by decide +kernel
theorem dX9_apart_38 : decode cX9_apart 38 = .ok (.astore_n 3, 1) := by decide +kernel
theorem dX9_apart_39 : decode cX9_apart 39 = .ok (.iconst 0, 1) := by decide +kernel
theorem dX9_apart_40 : decode cX9_apart 40 = .ok (.istore 4, 2) := by decide +kernel
theorem dX9_apart_42 : decode cX9_apart 42 = .ok (.iconst 0, 1) := by decide +kernel
theorem dX9_apart_43 : decode cX9_apart 43 = .ok (.istore 5, 2) := by decide +kernel
theorem dX9_apart_45 : decode cX9_apart 45 = .ok (.iload 5, 2) := by decide +kernel
theorem dX9_apart_47 : decode cX9_apart 47 = .ok (.aload_n 0, 1) := by decide +kernel
theorem dX9_apart_48 : decode cX9_apart 48 = .ok (.getfield 12, 3) := by decide +kernel
theorem dX9_apart_51 : decode cX9_apart 51 = .ok (.getfield 123, 3) := by decide +kernel
theorem dX9_apart_54 : decode cX9_apart 54 = .ok (.iload_n 1, 1) := by decide +kernel
theorem dX9_apart_55 : decode cX9_apart 55 = .ok (.iaload, 1) := by decide +kernel
theorem dX9_apart_56 : decode cX9_apart 56 = .ok (.if_icmp .ge 61, 3) := by decide +kernel
theorem dX9_apart_59 : decode cX9_apart 59 = .ok (.aload_n 0, 1) := by decide +kernel
theorem dX9_apart_60 : decode cX9_apart 60 = .ok (.getfield 30, 3) := by decide +kernel
theorem dX9_apart_63 : decode cX9_apart 63 = .ok (.iload_n 1, 1) := by decide +kernel
theorem dX9_apart_64 : decode cX9_apart 64 = .ok (.aaload, 1) := by decide +kernel
theorem dX9_apart_65 : decode cX9_apart 65 = .ok (.getfield 312, 3) := by decide +kernel
theorem dX9_apart_68 : decode cX9_apart 68 = .ok (.iload 5, 2) := by decide +kernel
theorem dX9_apart_70 : decode cX9_apart 70 = .ok (.iaload, 1) := by decide +kernel
theorem dX9_apart_71 : decode cX9_apart 71 = .ok (.aload_n 3, 1) := by decide +kernel
theorem dX9_apart_72 : decode cX9_apart 72 = .ok (.getfield 281, 3) := by decide +kernel
theorem dX9_apart_75 : decode cX9_apart 75 = .ok (.imul, 1) := by decide +kernel
theorem dX9_apart_76 : decode cX9_apart 76 = .ok (.istore 6, 2) := by decide +kernel
theorem dX9_apart_78 : decode cX9_apart 78 = .ok (.aload_n 3, 1) := by decide +kernel
theorem dX9_apart_79 : decode cX9_apart 79 = .ok (.iload 5, 2) := by decide +kernel
theorem dX9_apart_81 : decode cX9_apart 81 = .ok (.invokevirtual 315, 3) := by decide +kernel
theorem dX9_apart_84 : decode cX9_apart 84 = .ok (.aload_n 0, 1) := by decide +kernel
theorem dX9_apart_85 : decode cX9_apart 85 = .ok (.getfield 30, 3) := by decide +kernel
theorem dX9_apart_88 : decode cX9_apart 88 = .ok (.iload_n 1, 1) := by decide +kernel
theorem dX9_apart_89 : decode cX9_apart 89 = .ok (.aaload, 1) := by decide +kernel
theorem dX9_apart_90 : decode cX9_apart 90 = .ok (.getfield 310, 3) := by decide +kernel
theorem dX9_apart_93 : decode cX9_apart 93 = .ok (.imul, 1) := by decide +kernel
theorem dX9_apart_94 : decode cX9_apart 94 = .ok (.istore 7, 2) := by decide +kernel
theorem dX9_apart_96 : decode cX9_apart 96 = .ok (.iload 4, 2) := by decide +kernel
theorem dX9_apart_98 : decode cX9_apart 98 = .ok (.iload 6, 2) := by decide +kernel
theorem dX9_apart_100 : decode cX9_apart 100 = .ok (.iload 7, 2) := by decide +kernel
theorem dX9_apart_102 : decode cX9_apart 102 = .ok (.isub, 1) := by decide +kernel
theorem dX9_apart_103 : decode cX9_apart 103 = .ok (.invokestatic 318, 3) := by decide +kernel
theorem dX9_apart_106 : decode cX9_apart 106 = .ok (.invokestatic 182, 3) := by decide +kernel
theorem dX9_apart_109 : decode cX9_apart 109 = .ok (.istore 4, 2) := by decide +kernel
theorem dX9_apart_111 : decode cX9_apart 111 = .ok (.iinc 5 1, 3) := by decide +kernel
theorem dX9_apart_114 : decode cX9_apart 114 = .ok (.goto (-69), 3) := by decide +kernel
theorem dX9_apart_117 : decode cX9_apart 117 = .ok (.iload 4, 2) := by decide +kernel
theorem dX9_apart_119 : decode cX9_apart 119 = .ok (.i2l, 1) := by decide +kernel
theorem dX9_apart_120 : decode cX9_apart 120 = .ok (.aload_n 0, 1) := by decide +kernel
theorem dX9_apart_121 : decode cX9_apart 121 = .ok (.getfield 30, 3) := by decide +kernel
theorem dX9_apart_124 : decode cX9_apart 124 = .ok (.iload_n 1, 1) := by decide +kernel
theorem dX9_apart_125 : decode cX9_apart 125 = .ok (.aaload, 1) := by decide +kernel
theorem dX9_apart_126 : decode cX9_apart 126 = .ok (.getfield 310, 3) := by decide +kernel
theorem dX9_apart_129 : decode cX9_apart 129 = .ok (.aload_n 3, 1) := by decide +kernel
theorem dX9_apart_130 : decode cX9_apart 130 = .ok (.getfield 281, 3) := by decide +kernel
theorem dX9_apart_133 : decode cX9_apart 133 = .ok (.imul, 1) := by decide +kernel
theorem dX9_apart_134 : decode cX9_apart 134 = .ok (.i2l, 1) := by decide +kernel
theorem dX9_apart_135 : decode cX9_apart 135 = .ok (.iload_n 2, 1) := by decide +kernel
theorem dX9_apart_136 : decode cX9_apart 136 = .ok (.invokestatic 229, 3) := by decide +kernel
theorem dX9_apart_139 : decode cX9_apart 139 = .ok (.ireturn, 1) := by decide +kernel
abbrev j9_apart : xJ := (cX9_apart, 8, RX9, 3, 0, 0)
def F9_apart_b117 (z : Nat) (x1 : Int32) (x2 : Int32) (p3 : Nat) (x4 : Int32) (c_n_many : (Nat → Int32)) (c_n_p_list : (Nat → Nat → Int32)) (c_n_p_weights : (Nat → Nat → Int32)) (c_n_p_many : (Nat → Int32)) (c_n_p_all : (Nat → Int32)) (c_nt_seen : (Nat → Nat → Int32)) (c_nt_many : (Nat → Int32)) : Option (Int32) :=
  xg (Nat.blt p3 2) (xg (xin x1 2) ((F9_lowest z (x4).toInt64 (((c_nt_many (xn x1)) * (c_n_p_all p3))).toInt64 x2).bind (fun v136 => some (v136))))
theorem T9_apart_b117 {X : xX} {c_chance : Int32} {c_n_fields : Int32} {c_n_ties : Int32} {c_n_worth : (Nat → Int32)} {c_n_forces : (Nat → Int32)} {c_n_codes : (Nat → Nat → Int32)} {c_n_b_list : (Nat → Nat → Int32)} {c_n_b_many : (Nat → Int32)} {c_n_p_drawn : (Nat → Nat → Int32)} {c_n_p_turns : (Nat → Int32)} {c_l_fault : Int32} {c_l_t_bytes : (Nat → Int32)} {c_l_t_many : Int32} {c_l_t_kind : Int32} {c_l_t_from : Int32} {c_l_t_behind : Int32} {c_l_t_end : Int32} {c_l_s_fields : Int32} {c_l_s_ties : Int32} {c_l_s_worth : (Nat → Int32)} {c_l_s_forces : (Nat → Int32)} {c_l_s_many : (Nat → Int32)} {c_l_s_codes : (Nat → Nat → Int32)} {c_l_s_b_list : (Nat → Nat → Int32)} {c_l_s_b_many : (Nat → Int32)} {c_l_s_p_list : (Nat → Nat → Int32)} {c_l_s_p_weights : (Nat → Nat → Int32)} {c_l_s_p_drawn : (Nat → Nat → Int32)} {c_l_s_p_many : (Nat → Int32)} {c_l_s_p_all : (Nat → Int32)} {c_l_s_p_turns : (Nat → Int32)} {c_v_kept : (Nat → Nat → Int32)} {c_v_many : (Nat → Int32)} {c_v_turns : Int32} {c_v_stale : Int32} {c_v_goes : (Nat → Nat → Int32)} {c_v_row : (Nat → Int32)} {c_w_all : Int32} {c_w_mass : (Nat → Nat → Int32)} {c_g_picks : (Nat → Nat → Int32)} {c_g_many : (Nat → Int32)} {c_g_table : (Nat → Nat → Int64)} {c_g_rowNames : (Nat → Int32)} {c_g_columnNames : (Nat → Int32)} {c_g_rows : Int32} {c_g_columns : Int32} {c_g_scale : Int64} {x1 : Int32} {x2 : Int32} {p3 : Nat} {x4 : Int32} {c_n_many : (Nat → Int32)} {c_n_p_list : (Nat → Nat → Int32)} {c_n_p_weights : (Nat → Nat → Int32)} {c_n_p_many : (Nat → Int32)} {c_n_p_all : (Nat → Int32)} {c_nt_seen : (Nat → Nat → Int32)} {c_nt_many : (Nat → Int32)} {z : Nat} {v : Int32} (hX : xIs (j9_apart) X ((some .int)) (some (.int v)) (hXx c_chance c_n_fields c_n_ties c_n_worth c_n_forces c_n_many c_n_codes c_n_b_list c_n_b_many c_n_p_list c_n_p_weights c_n_p_drawn c_n_p_many c_n_p_all c_n_p_turns c_l_fault c_l_t_bytes c_l_t_many c_l_t_kind c_l_t_from c_l_t_behind c_l_t_end c_l_s_fields c_l_s_ties c_l_s_worth c_l_s_forces c_l_s_many c_l_s_codes c_l_s_b_list c_l_s_b_many c_l_s_p_list c_l_s_p_weights c_l_s_p_drawn c_l_s_p_many c_l_s_p_all c_l_s_p_turns c_nt_seen c_nt_many c_v_kept c_v_many c_v_turns c_v_stale c_v_goes c_v_row c_w_all c_w_mass c_g_picks c_g_many c_g_table c_g_rowNames c_g_columnNames c_g_rows c_g_columns c_g_scale)) (hf : F9_apart_b117 z x1 x2 p3 x4 c_n_many c_n_p_list c_n_p_weights c_n_p_many c_n_p_all c_nt_seen c_nt_many = some v) : xV (j9_apart) X 0 0 (hXx c_chance c_n_fields c_n_ties c_n_worth c_n_forces c_n_many c_n_codes c_n_b_list c_n_b_many c_n_p_list c_n_p_weights c_n_p_drawn c_n_p_many c_n_p_all c_n_p_turns c_l_fault c_l_t_bytes c_l_t_many c_l_t_kind c_l_t_from c_l_t_behind c_l_t_end c_l_s_fields c_l_s_ties c_l_s_worth c_l_s_forces c_l_s_many c_l_s_codes c_l_s_b_list c_l_s_b_many c_l_s_p_list c_l_s_p_weights c_l_s_p_drawn c_l_s_p_many c_l_s_p_all c_l_s_p_turns c_nt_seen c_nt_many c_v_kept c_v_many c_v_turns c_v_stale c_v_goes c_v_row c_w_all c_w_mass c_g_picks c_g_many c_g_table c_g_rowNames c_g_columnNames c_g_rows c_g_columns c_g_scale) 117 [(0, .ref 0), (1, .int x1), (2, .int x2), (3, .ref (14 + 4 * p3)), (4, .int x4)] [] := by
  unfold F9_apart_b117 at hf
  obtain ⟨hp3, hf⟩ := xg_s hf
  refine xV_iload 119 rfl dX9_apart_117 4 rfl ?_
  refine xV_i2l 120 rfl dX9_apart_119 ?_
  refine xV_aload_n 121 rfl dX9_apart_120 rfl 0 rfl ?_
  refine xV_get (v := .ref 46) 124 rfl dX9_apart_121 f9_30 rfl rfl ?_
  refine xV_iload_n 125 rfl dX9_apart_124 rfl 1 rfl ?_
  obtain ⟨hg125, hf⟩ := xg_s hf
  refine xV_aaload (b := (47 + 2 * (xn x1))) 126 rfl dX9_apart_125 rfl rfl rfl (xin_ok hg125) (by show ([47, 49] : List Nat)[(xn x1)]? = some (47 + 2 * (xn x1)); have hi := xin_lt hg125; generalize (xn x1) = i at hi ⊢; match i, hi with | 0, _ => rfl | 1, _ => rfl) ?_
  refine xV_get (v := .int (c_nt_many (xn x1))) (fs := [.ref (48 + 2 * (xn x1)), .int (c_nt_many (xn x1))]) 129 rfl dX9_apart_126 f9_310 (by have hi := (xin_lt hg125); generalize (xn x1) = i at hi ⊢; match i, hi with | 0, _ => exact rfl | 1, _ => exact rfl) rfl ?_
  refine xV_aload_n 130 rfl dX9_apart_129 rfl 3 rfl ?_
  refine xV_get (v := .int (c_n_p_all p3)) (fs := [.ref (15 + 4 * p3), .ref (16 + 4 * p3), .ref (17 + 4 * p3), .int (c_n_p_many p3), .int (c_n_p_all p3), .int (c_n_p_turns p3)]) 133 rfl dX9_apart_130 f9_281 (by have hi := (xblt hp3); generalize p3 = i at hi ⊢; match i, hi with | 0, _ => exact rfl | 1, _ => exact rfl) rfl ?_
  refine xV_imul 134 rfl dX9_apart_133 ?_
  refine xV_i2l 135 rfl dX9_apart_134 ?_
  refine xV_iload_n 136 rfl dX9_apart_135 rfl 2 rfl ?_
  obtain ⟨v136, hv136, hf⟩ := xb_s hf
  refine xV_st0 (rest := []) 139 rfl dX9_apart_136 rfl (C9_lowest X.1.2.1 hv136) m9_lowest s9_lowest k9_229 rfl (Nat.le_of_ble_eq_true rfl) (Nat.le_of_ble_eq_true rfl) (Nat.le_of_ble_eq_true rfl) ⟨Nat.le_refl _, Nat.le_refl _⟩ ?_
  show xV (j9_apart) X 0 0 (hXx c_chance c_n_fields c_n_ties c_n_worth c_n_forces c_n_many c_n_codes c_n_b_list c_n_b_many c_n_p_list c_n_p_weights c_n_p_drawn c_n_p_many c_n_p_all c_n_p_turns c_l_fault c_l_t_bytes c_l_t_many c_l_t_kind c_l_t_from c_l_t_behind c_l_t_end c_l_s_fields c_l_s_ties c_l_s_worth c_l_s_forces c_l_s_many c_l_s_codes c_l_s_b_list c_l_s_b_many c_l_s_p_list c_l_s_p_weights c_l_s_p_drawn c_l_s_p_many c_l_s_p_all c_l_s_p_turns c_nt_seen c_nt_many c_v_kept c_v_many c_v_turns c_v_stale c_v_goes c_v_row c_w_all c_w_mass c_g_picks c_g_many c_g_table c_g_rowNames c_g_columnNames c_g_rows c_g_columns c_g_scale) 139 [(0, .ref 0), (1, .int x1), (2, .int x2), (3, .ref (14 + 4 * p3)), (4, .int x4)] [.int v136]
  obtain rfl := Option.some.inj hf
  exact xV_iret hX dX9_apart_139 rfl (Nat.zero_le _) (Nat.zero_le _)
def F9_apart_b45 (z : Nat) (w : Nat) (x1 : Int32) (x2 : Int32) (p3 : Nat) (x4 : Int32) (x5 : Int32) (c_n_many : (Nat → Int32)) (c_n_p_list : (Nat → Nat → Int32)) (c_n_p_weights : (Nat → Nat → Int32)) (c_n_p_many : (Nat → Int32)) (c_n_p_all : (Nat → Int32)) (c_nt_seen : (Nat → Nat → Int32)) (c_nt_many : (Nat → Int32)) : Option (Int32) := match w with
  | 0 => none
  | w + 1 => xg (Nat.blt p3 2) (xg (xin x1 2) (if (c_n_many (xn x1)) ≤ x5 then (F9_apart_b117 z x1 x2 p3 x4 c_n_many c_n_p_list c_n_p_weights c_n_p_many c_n_p_all c_nt_seen c_nt_many) else (xg (xin x1 2) (xg (xin x5 120) ((F3_weightOf z x5 (c_n_p_list p3) (c_n_p_weights p3) (c_n_p_many p3)).bind (fun v81 => xg (xin x1 2) (F9_apart_b45 z w x1 x2 p3 (if x4 < (if 0 ≤ ((((c_nt_seen (xn x1)) (xn x5)) * (c_n_p_all p3)) - (v81 * (c_nt_many (xn x1)))) then ((((c_nt_seen (xn x1)) (xn x5)) * (c_n_p_all p3)) - (v81 * (c_nt_many (xn x1)))) else 0 - ((((c_nt_seen (xn x1)) (xn x5)) * (c_n_p_all p3)) - (v81 * (c_nt_many (xn x1))))) then (if 0 ≤ ((((c_nt_seen (xn x1)) (xn x5)) * (c_n_p_all p3)) - (v81 * (c_nt_many (xn x1)))) then ((((c_nt_seen (xn x1)) (xn x5)) * (c_n_p_all p3)) - (v81 * (c_nt_many (xn x1)))) else 0 - ((((c_nt_seen (xn x1)) (xn x5)) * (c_n_p_all p3)) - (v81 * (c_nt_many (xn x1))))) else x4) (x5 + (1 : Int32)) c_n_many c_n_p_list c_n_p_weights c_n_p_many c_n_p_all c_nt_seen c_nt_many)))))))
theorem T9_apart_b45 {X : xX} {c_chance : Int32} {c_n_fields : Int32} {c_n_ties : Int32} {c_n_worth : (Nat → Int32)} {c_n_forces : (Nat → Int32)} {c_n_many : (Nat → Int32)} {c_n_codes : (Nat → Nat → Int32)} {c_n_b_list : (Nat → Nat → Int32)} {c_n_b_many : (Nat → Int32)} {c_n_p_list : (Nat → Nat → Int32)} {c_n_p_weights : (Nat → Nat → Int32)} {c_n_p_drawn : (Nat → Nat → Int32)} {c_n_p_many : (Nat → Int32)} {c_n_p_all : (Nat → Int32)} {c_n_p_turns : (Nat → Int32)} {c_l_fault : Int32} {c_l_t_bytes : (Nat → Int32)} {c_l_t_many : Int32} {c_l_t_kind : Int32} {c_l_t_from : Int32} {c_l_t_behind : Int32} {c_l_t_end : Int32} {c_l_s_fields : Int32} {c_l_s_ties : Int32} {c_l_s_worth : (Nat → Int32)} {c_l_s_forces : (Nat → Int32)} {c_l_s_many : (Nat → Int32)} {c_l_s_codes : (Nat → Nat → Int32)} {c_l_s_b_list : (Nat → Nat → Int32)} {c_l_s_b_many : (Nat → Int32)} {c_l_s_p_list : (Nat → Nat → Int32)} {c_l_s_p_weights : (Nat → Nat → Int32)} {c_l_s_p_drawn : (Nat → Nat → Int32)} {c_l_s_p_many : (Nat → Int32)} {c_l_s_p_all : (Nat → Int32)} {c_l_s_p_turns : (Nat → Int32)} {c_nt_seen : (Nat → Nat → Int32)} {c_nt_many : (Nat → Int32)} {c_v_kept : (Nat → Nat → Int32)} {c_v_many : (Nat → Int32)} {c_v_turns : Int32} {c_v_stale : Int32} {c_v_goes : (Nat → Nat → Int32)} {c_v_row : (Nat → Int32)} {c_w_all : Int32} {c_w_mass : (Nat → Nat → Int32)} {c_g_picks : (Nat → Nat → Int32)} {c_g_many : (Nat → Int32)} {c_g_table : (Nat → Nat → Int64)} {c_g_rowNames : (Nat → Int32)} {c_g_columnNames : (Nat → Int32)} {c_g_rows : Int32} {c_g_columns : Int32} {c_g_scale : Int64} {z : Nat} {v : Int32} (hX : xIs (j9_apart) X ((some .int)) (some (.int v)) (hXx c_chance c_n_fields c_n_ties c_n_worth c_n_forces c_n_many c_n_codes c_n_b_list c_n_b_many c_n_p_list c_n_p_weights c_n_p_drawn c_n_p_many c_n_p_all c_n_p_turns c_l_fault c_l_t_bytes c_l_t_many c_l_t_kind c_l_t_from c_l_t_behind c_l_t_end c_l_s_fields c_l_s_ties c_l_s_worth c_l_s_forces c_l_s_many c_l_s_codes c_l_s_b_list c_l_s_b_many c_l_s_p_list c_l_s_p_weights c_l_s_p_drawn c_l_s_p_many c_l_s_p_all c_l_s_p_turns c_nt_seen c_nt_many c_v_kept c_v_many c_v_turns c_v_stale c_v_goes c_v_row c_w_all c_w_mass c_g_picks c_g_many c_g_table c_g_rowNames c_g_columnNames c_g_rows c_g_columns c_g_scale)) : ∀ (w : Nat) {x1 : Int32} {x2 : Int32} {p3 : Nat} {x4 : Int32} {x5 : Int32}, F9_apart_b45 z w x1 x2 p3 x4 x5 c_n_many c_n_p_list c_n_p_weights c_n_p_many c_n_p_all c_nt_seen c_nt_many = some v → xV (j9_apart) X 0 0 (hXx c_chance c_n_fields c_n_ties c_n_worth c_n_forces c_n_many c_n_codes c_n_b_list c_n_b_many c_n_p_list c_n_p_weights c_n_p_drawn c_n_p_many c_n_p_all c_n_p_turns c_l_fault c_l_t_bytes c_l_t_many c_l_t_kind c_l_t_from c_l_t_behind c_l_t_end c_l_s_fields c_l_s_ties c_l_s_worth c_l_s_forces c_l_s_many c_l_s_codes c_l_s_b_list c_l_s_b_many c_l_s_p_list c_l_s_p_weights c_l_s_p_drawn c_l_s_p_many c_l_s_p_all c_l_s_p_turns c_nt_seen c_nt_many c_v_kept c_v_many c_v_turns c_v_stale c_v_goes c_v_row c_w_all c_w_mass c_g_picks c_g_many c_g_table c_g_rowNames c_g_columnNames c_g_rows c_g_columns c_g_scale) 45 [(0, .ref 0), (1, .int x1), (2, .int x2), (3, .ref (14 + 4 * p3)), (4, .int x4), (5, .int x5)] [] := by
  intro w
  induction w with
  | zero => intro x1 x2 p3 x4 x5 hf; cases hf
  | succ w ih =>
    intro x1 x2 p3 x4 x5 hf
    unfold F9_apart_b45 at hf
    obtain ⟨hp3, hf⟩ := xg_s hf
    refine xV_iload 47 rfl dX9_apart_45 5 rfl ?_
    refine xV_aload_n 48 rfl dX9_apart_47 rfl 0 rfl ?_
    refine xV_get (v := .ref 1) 51 rfl dX9_apart_48 f9_12 rfl rfl ?_
    refine xV_get (v := .ref 4) 54 rfl dX9_apart_51 f9_123 rfl rfl ?_
    refine xV_iload_n 55 rfl dX9_apart_54 rfl 1 rfl ?_
    obtain ⟨hg55, hf⟩ := xg_s hf
    refine xV_iaload 56 rfl dX9_apart_55 rfl (xin_ok hg55) rfl ?_
    refine xV_icmp_ge (tgt := 117) 59 rfl dX9_apart_56 (by decide) (fun h56 => ?_) (fun h56 => ?_)
    · have hf := xif_t hf h56
      refine xV_sub [0, 1, 2, 3, 4] rfl ?_
      exact T9_apart_b117 hX hf
    · have hf := xif_f hf h56
      refine xV_aload_n 60 rfl dX9_apart_59 rfl 0 rfl ?_
      refine xV_get (v := .ref 46) 63 rfl dX9_apart_60 f9_30 rfl rfl ?_
      refine xV_iload_n 64 rfl dX9_apart_63 rfl 1 rfl ?_
      obtain ⟨hg64, hf⟩ := xg_s hf
      refine xV_aaload (b := (47 + 2 * (xn x1))) 65 rfl dX9_apart_64 rfl rfl rfl (xin_ok hg64) (by show ([47, 49] : List Nat)[(xn x1)]? = some (47 + 2 * (xn x1)); have hi := xin_lt hg64; generalize (xn x1) = i at hi ⊢; match i, hi with | 0, _ => rfl | 1, _ => rfl) ?_
      refine xV_get (v := .ref (48 + 2 * (xn x1))) (fs := [.ref (48 + 2 * (xn x1)), .int (c_nt_many (xn x1))]) 68 rfl dX9_apart_65 f9_312 (by have hi := (xin_lt hg64); generalize (xn x1) = i at hi ⊢; match i, hi with | 0, _ => exact rfl | 1, _ => exact rfl) rfl ?_
      refine xV_iload 70 rfl dX9_apart_68 5 rfl ?_
      obtain ⟨hg70, hf⟩ := xg_s hf
      refine xV_iaload (f := (c_nt_seen (xn x1))) (z := 120) 71 rfl dX9_apart_70 (by have hi := (xin_lt hg64); generalize (xn x1) = i at hi ⊢; match i, hi with | 0, _ => exact rfl | 1, _ => exact rfl) (xin_ok hg70) rfl ?_
      refine xV_aload_n 72 rfl dX9_apart_71 rfl 3 rfl ?_
      refine xV_get (v := .int (c_n_p_all p3)) (fs := [.ref (15 + 4 * p3), .ref (16 + 4 * p3), .ref (17 + 4 * p3), .int (c_n_p_many p3), .int (c_n_p_all p3), .int (c_n_p_turns p3)]) 75 rfl dX9_apart_72 f9_281 (by have hi := (xblt hp3); generalize p3 = i at hi ⊢; match i, hi with | 0, _ => exact rfl | 1, _ => exact rfl) rfl ?_
      refine xV_imul 76 rfl dX9_apart_75 ?_
      refine xV_istore (L' := [(6, .int (((c_nt_seen (xn x1)) (xn x5)) * (c_n_p_all p3))), (0, .ref 0), (1, .int x1), (2, .int x2), (3, .ref (14 + 4 * p3)), (4, .int x4), (5, .int x5)]) 78 rfl dX9_apart_76 (xlt rfl) rfl ?_
      refine xV_aload_n 79 rfl dX9_apart_78 rfl 4 rfl ?_
      refine xV_iload 81 rfl dX9_apart_79 6 rfl ?_
      obtain ⟨v81, hv81, hf⟩ := xb_s hf
      refine xV_vir2 (g := (fun j => (14 + 4 * p3) + j)) (hl := (hP (c_n_p_list p3) (c_n_p_weights p3) (c_n_p_drawn p3) (c_n_p_many p3) (c_n_p_all p3) (c_n_p_turns p3))) (hl' := (hP (c_n_p_list p3) (c_n_p_weights p3) (c_n_p_drawn p3) (c_n_p_many p3) (c_n_p_all p3) (c_n_p_turns p3))) (h' := (hXx c_chance c_n_fields c_n_ties c_n_worth c_n_forces c_n_many c_n_codes c_n_b_list c_n_b_many c_n_p_list c_n_p_weights c_n_p_drawn c_n_p_many c_n_p_all c_n_p_turns c_l_fault c_l_t_bytes c_l_t_many c_l_t_kind c_l_t_from c_l_t_behind c_l_t_end c_l_s_fields c_l_s_ties c_l_s_worth c_l_s_forces c_l_s_many c_l_s_codes c_l_s_b_list c_l_s_b_many c_l_s_p_list c_l_s_p_weights c_l_s_p_drawn c_l_s_p_many c_l_s_p_all c_l_s_p_turns c_nt_seen c_nt_many c_v_kept c_v_many c_v_turns c_v_stale c_v_goes c_v_row c_w_all c_w_mass c_g_picks c_g_many c_g_table c_g_rowNames c_g_columnNames c_g_rows c_g_columns c_g_scale)) (rest := []) (ci := 3) 84 rfl dX9_apart_81 rfl (C3_weightOf X.1.2.1 hv81) m3_weightOf v3_weightOf k9_315 rfl rfl rfl (e_Xx_P_F2 (xblt hp3) (xup_same _ _) (xup_same _ _) (xup_same _ _) (xup_same _ _) (xup_same _ _) (xup_same _ _)) rfl (Nat.le_of_ble_eq_true rfl) (Nat.le_of_ble_eq_true rfl) (Nat.le_of_ble_eq_true rfl) ⟨Nat.le_refl _, Nat.le_refl _⟩ ?_
      show xV (j9_apart) X 0 0 (hXx c_chance c_n_fields c_n_ties c_n_worth c_n_forces c_n_many c_n_codes c_n_b_list c_n_b_many c_n_p_list c_n_p_weights c_n_p_drawn c_n_p_many c_n_p_all c_n_p_turns c_l_fault c_l_t_bytes c_l_t_many c_l_t_kind c_l_t_from c_l_t_behind c_l_t_end c_l_s_fields c_l_s_ties c_l_s_worth c_l_s_forces c_l_s_many c_l_s_codes c_l_s_b_list c_l_s_b_many c_l_s_p_list c_l_s_p_weights c_l_s_p_drawn c_l_s_p_many c_l_s_p_all c_l_s_p_turns c_nt_seen c_nt_many c_v_kept c_v_many c_v_turns c_v_stale c_v_goes c_v_row c_w_all c_w_mass c_g_picks c_g_many c_g_table c_g_rowNames c_g_columnNames c_g_rows c_g_columns c_g_scale) 84 [(6, .int (((c_nt_seen (xn x1)) (xn x5)) * (c_n_p_all p3))), (0, .ref 0), (1, .int x1), (2, .int x2), (3, .ref (14 + 4 * p3)), (4, .int x4), (5, .int x5)] [.int v81]
      refine xV_aload_n 85 rfl dX9_apart_84 rfl 1 rfl ?_
      refine xV_get (v := .ref 46) 88 rfl dX9_apart_85 f9_30 rfl rfl ?_
      refine xV_iload_n 89 rfl dX9_apart_88 rfl 2 rfl ?_
      obtain ⟨hg89, hf⟩ := xg_s hf
      refine xV_aaload (b := (47 + 2 * (xn x1))) 90 rfl dX9_apart_89 rfl rfl rfl (xin_ok hg89) (by show ([47, 49] : List Nat)[(xn x1)]? = some (47 + 2 * (xn x1)); have hi := xin_lt hg89; generalize (xn x1) = i at hi ⊢; match i, hi with | 0, _ => rfl | 1, _ => rfl) ?_
      refine xV_get (v := .int (c_nt_many (xn x1))) (fs := [.ref (48 + 2 * (xn x1)), .int (c_nt_many (xn x1))]) 93 rfl dX9_apart_90 f9_310 (by have hi := (xin_lt hg89); generalize (xn x1) = i at hi ⊢; match i, hi with | 0, _ => exact rfl | 1, _ => exact rfl) rfl ?_
      refine xV_imul 94 rfl dX9_apart_93 ?_
      refine xV_istore (L' := [(7, .int (v81 * (c_nt_many (xn x1)))), (6, .int (((c_nt_seen (xn x1)) (xn x5)) * (c_n_p_all p3))), (0, .ref 0), (1, .int x1), (2, .int x2), (3, .ref (14 + 4 * p3)), (4, .int x4), (5, .int x5)]) 96 rfl dX9_apart_94 (xlt rfl) rfl ?_
      refine xV_iload 98 rfl dX9_apart_96 6 rfl ?_
      refine xV_iload 100 rfl dX9_apart_98 1 rfl ?_
      refine xV_iload 102 rfl dX9_apart_100 0 rfl ?_
      refine xV_isub 103 rfl dX9_apart_102 ?_
      refine xV_mabs 106 rfl dX9_apart_103 k9_318 (Nat.le_of_ble_eq_true rfl) (Nat.le_of_ble_eq_true rfl) (Nat.zero_le _) (Nat.zero_le _) ?_
      refine xV_mmax 109 rfl dX9_apart_106 k9_182 (Nat.le_of_ble_eq_true rfl) (Nat.le_of_ble_eq_true rfl) (Nat.zero_le _) (Nat.zero_le _) ?_
      refine xV_istore (L' := [(4, .int (if x4 < (if 0 ≤ ((((c_nt_seen (xn x1)) (xn x5)) * (c_n_p_all p3)) - (v81 * (c_nt_many (xn x1)))) then ((((c_nt_seen (xn x1)) (xn x5)) * (c_n_p_all p3)) - (v81 * (c_nt_many (xn x1)))) else 0 - ((((c_nt_seen (xn x1)) (xn x5)) * (c_n_p_all p3)) - (v81 * (c_nt_many (xn x1))))) then (if 0 ≤ ((((c_nt_seen (xn x1)) (xn x5)) * (c_n_p_all p3)) - (v81 * (c_nt_many (xn x1)))) then ((((c_nt_seen (xn x1)) (xn x5)) * (c_n_p_all p3)) - (v81 * (c_nt_many (xn x1)))) else 0 - ((((c_nt_seen (xn x1)) (xn x5)) * (c_n_p_all p3)) - (v81 * (c_nt_many (xn x1))))) else x4)), (7, .int (v81 * (c_nt_many (xn x1)))), (6, .int (((c_nt_seen (xn x1)) (xn x5)) * (c_n_p_all p3))), (0, .ref 0), (1, .int x1), (2, .int x2), (3, .ref (14 + 4 * p3)), (5, .int x5)]) 111 rfl dX9_apart_109 (xlt rfl) rfl ?_
      refine xV_iinc (L' := [(5, .int (x5 + (1 : Int32))), (4, .int (if x4 < (if 0 ≤ ((((c_nt_seen (xn x1)) (xn x5)) * (c_n_p_all p3)) - (v81 * (c_nt_many (xn x1)))) then ((((c_nt_seen (xn x1)) (xn x5)) * (c_n_p_all p3)) - (v81 * (c_nt_many (xn x1)))) else 0 - ((((c_nt_seen (xn x1)) (xn x5)) * (c_n_p_all p3)) - (v81 * (c_nt_many (xn x1))))) then (if 0 ≤ ((((c_nt_seen (xn x1)) (xn x5)) * (c_n_p_all p3)) - (v81 * (c_nt_many (xn x1)))) then ((((c_nt_seen (xn x1)) (xn x5)) * (c_n_p_all p3)) - (v81 * (c_nt_many (xn x1)))) else 0 - ((((c_nt_seen (xn x1)) (xn x5)) * (c_n_p_all p3)) - (v81 * (c_nt_many (xn x1))))) else x4)), (7, .int (v81 * (c_nt_many (xn x1)))), (6, .int (((c_nt_seen (xn x1)) (xn x5)) * (c_n_p_all p3))), (0, .ref 0), (1, .int x1), (2, .int x2), (3, .ref (14 + 4 * p3))]) 114 rfl dX9_apart_111 7 rfl (xk_inc xy_i1) (xlt rfl) rfl ?_
      refine xV_goto (tgt := 45) dX9_apart_114 (by decide) ?_
      refine xV_sub [4, 5, 6, 7, 1, 0] rfl ?_
      exact ih hf
def F9_apart (z : Nat) (x1 : Int32) (x2 : Int32) (c_n_many : (Nat → Int32)) (c_n_p_list : (Nat → Nat → Int32)) (c_n_p_weights : (Nat → Nat → Int32)) (c_n_p_many : (Nat → Int32)) (c_n_p_all : (Nat → Int32)) (c_nt_seen : (Nat → Nat → Int32)) (c_nt_many : (Nat → Int32)) : Option (Int32) :=
  (F9_hasPlan x1 c_n_p_many).bind (fun v2 => if v2 = 0 then (some ((-1 : Int32))) else (xg (xin x1 2) (if (c_nt_many (xn x1)) = 0 then (some ((-1 : Int32))) else ((F9_isPart x2).bind (fun v21 => if v21 = 0 then (some ((-1 : Int32))) else (xg (xin x1 2) (F9_apart_b45 z z x1 x2 (xn x1) (0 : Int32) (0 : Int32) c_n_many c_n_p_list c_n_p_weights c_n_p_many c_n_p_all c_nt_seen c_nt_many)))))))
theorem T9_apart {X : xX} {z : Nat} {x1 : Int32} {x2 : Int32} {c_n_many : (Nat → Int32)} {c_n_p_list : (Nat → Nat → Int32)} {c_n_p_weights : (Nat → Nat → Int32)} {c_n_p_many : (Nat → Int32)} {c_n_p_all : (Nat → Int32)} {c_nt_seen : (Nat → Nat → Int32)} {c_nt_many : (Nat → Int32)} {c_chance : Int32} {c_n_fields : Int32} {c_n_ties : Int32} {c_n_worth : (Nat → Int32)} {c_n_forces : (Nat → Int32)} {c_n_codes : (Nat → Nat → Int32)} {c_n_b_list : (Nat → Nat → Int32)} {c_n_b_many : (Nat → Int32)} {c_n_p_drawn : (Nat → Nat → Int32)} {c_n_p_turns : (Nat → Int32)} {c_l_fault : Int32} {c_l_t_bytes : (Nat → Int32)} {c_l_t_many : Int32} {c_l_t_kind : Int32} {c_l_t_from : Int32} {c_l_t_behind : Int32} {c_l_t_end : Int32} {c_l_s_fields : Int32} {c_l_s_ties : Int32} {c_l_s_worth : (Nat → Int32)} {c_l_s_forces : (Nat → Int32)} {c_l_s_many : (Nat → Int32)} {c_l_s_codes : (Nat → Nat → Int32)} {c_l_s_b_list : (Nat → Nat → Int32)} {c_l_s_b_many : (Nat → Int32)} {c_l_s_p_list : (Nat → Nat → Int32)} {c_l_s_p_weights : (Nat → Nat → Int32)} {c_l_s_p_drawn : (Nat → Nat → Int32)} {c_l_s_p_many : (Nat → Int32)} {c_l_s_p_all : (Nat → Int32)} {c_l_s_p_turns : (Nat → Int32)} {c_v_kept : (Nat → Nat → Int32)} {c_v_many : (Nat → Int32)} {c_v_turns : Int32} {c_v_stale : Int32} {c_v_goes : (Nat → Nat → Int32)} {c_v_row : (Nat → Int32)} {c_w_all : Int32} {c_w_mass : (Nat → Nat → Int32)} {c_g_picks : (Nat → Nat → Int32)} {c_g_many : (Nat → Int32)} {c_g_table : (Nat → Nat → Int64)} {c_g_rowNames : (Nat → Int32)} {c_g_columnNames : (Nat → Int32)} {c_g_rows : Int32} {c_g_columns : Int32} {c_g_scale : Int64} {v : Int32} (hX : xIs (j9_apart) X ((some .int)) (some (.int v)) (hXx c_chance c_n_fields c_n_ties c_n_worth c_n_forces c_n_many c_n_codes c_n_b_list c_n_b_many c_n_p_list c_n_p_weights c_n_p_drawn c_n_p_many c_n_p_all c_n_p_turns c_l_fault c_l_t_bytes c_l_t_many c_l_t_kind c_l_t_from c_l_t_behind c_l_t_end c_l_s_fields c_l_s_ties c_l_s_worth c_l_s_forces c_l_s_many c_l_s_codes c_l_s_b_list c_l_s_b_many c_l_s_p_list c_l_s_p_weights c_l_s_p_drawn c_l_s_p_many c_l_s_p_all c_l_s_p_turns c_nt_seen c_nt_many c_v_kept c_v_many c_v_turns c_v_stale c_v_goes c_v_row c_w_all c_w_mass c_g_picks c_g_many c_g_table c_g_rowNames c_g_columnNames c_g_rows c_g_columns c_g_scale)) (hf : F9_apart z x1 x2 c_n_many c_n_p_list c_n_p_weights c_n_p_many c_n_p_all c_nt_seen c_nt_many = some v) : xV (j9_apart) X 0 0 (hXx c_chance c_n_fields c_n_ties c_n_worth c_n_forces c_n_many c_n_codes c_n_b_list c_n_b_many c_n_p_list c_n_p_weights c_n_p_drawn c_n_p_many c_n_p_all c_n_p_turns c_l_fault c_l_t_bytes c_l_t_many c_l_t_kind c_l_t_from c_l_t_behind c_l_t_end c_l_s_fields c_l_s_ties c_l_s_worth c_l_s_forces c_l_s_many c_l_s_codes c_l_s_b_list c_l_s_b_many c_l_s_p_list c_l_s_p_weights c_l_s_p_drawn c_l_s_p_many c_l_s_p_all c_l_s_p_turns c_nt_seen c_nt_many c_v_kept c_v_many c_v_turns c_v_stale c_v_goes c_v_row c_w_all c_w_mass c_g_picks c_g_many c_g_table c_g_rowNames c_g_columnNames c_g_rows c_g_columns c_g_scale) 0 [(0, .ref 0), (1, .int x1), (2, .int x2)] [] := by
  unfold F9_apart at hf
  refine xV_aload_n 1 rfl dX9_apart_0 rfl 0 rfl ?_
  refine xV_iload_n 2 rfl dX9_apart_1 rfl 1 rfl ?_
  obtain ⟨v2, hv2, hf⟩ := xb_s hf
  refine xV_same (rest := []) 5 rfl dX9_apart_2 rfl (C9_hasPlan X.1.2.1 hv2) m9_hasPlan v9_hasPlan k9_266 rfl rfl rfl rfl rfl (Nat.le_of_ble_eq_true rfl) (Nat.le_of_ble_eq_true rfl) (Nat.le_of_ble_eq_true rfl) ⟨Nat.le_refl _, Nat.le_refl _⟩ ?_
  show xV (j9_apart) X 0 0 (hXx c_chance c_n_fields c_n_ties c_n_worth c_n_forces c_n_many c_n_codes c_n_b_list c_n_b_many c_n_p_list c_n_p_weights c_n_p_drawn c_n_p_many c_n_p_all c_n_p_turns c_l_fault c_l_t_bytes c_l_t_many c_l_t_kind c_l_t_from c_l_t_behind c_l_t_end c_l_s_fields c_l_s_ties c_l_s_worth c_l_s_forces c_l_s_many c_l_s_codes c_l_s_b_list c_l_s_b_many c_l_s_p_list c_l_s_p_weights c_l_s_p_drawn c_l_s_p_many c_l_s_p_all c_l_s_p_turns c_nt_seen c_nt_many c_v_kept c_v_many c_v_turns c_v_stale c_v_goes c_v_row c_w_all c_w_mass c_g_picks c_g_many c_g_table c_g_rowNames c_g_columnNames c_g_rows c_g_columns c_g_scale) 5 [(0, .ref 0), (1, .int x1), (2, .int x2)] [.int v2]
  refine xV_if_eq (tgt := 27) 8 rfl dX9_apart_5 (by decide) (fun h5 => ?_) (fun h5 => ?_)
  · have hf := xif_t hf h5
    refine xV_iconst 28 rfl dX9_apart_27 xy_im1 ?_
    obtain rfl := Option.some.inj hf
    exact xV_iret hX dX9_apart_28 rfl (Nat.zero_le _) (Nat.zero_le _)
  · have hf := xif_f hf h5
    refine xV_aload_n 9 rfl dX9_apart_8 rfl 0 rfl ?_
    refine xV_get (v := .ref 46) 12 rfl dX9_apart_9 f9_30 rfl rfl ?_
    refine xV_iload_n 13 rfl dX9_apart_12 rfl 1 rfl ?_
    obtain ⟨hg13, hf⟩ := xg_s hf
    refine xV_aaload (b := (47 + 2 * (xn x1))) 14 rfl dX9_apart_13 rfl rfl rfl (xin_ok hg13) (by show ([47, 49] : List Nat)[(xn x1)]? = some (47 + 2 * (xn x1)); have hi := xin_lt hg13; generalize (xn x1) = i at hi ⊢; match i, hi with | 0, _ => rfl | 1, _ => rfl) ?_
    refine xV_get (v := .int (c_nt_many (xn x1))) (fs := [.ref (48 + 2 * (xn x1)), .int (c_nt_many (xn x1))]) 17 rfl dX9_apart_14 f9_310 (by have hi := (xin_lt hg13); generalize (xn x1) = i at hi ⊢; match i, hi with | 0, _ => exact rfl | 1, _ => exact rfl) rfl ?_
    refine xV_if_eq (tgt := 27) 20 rfl dX9_apart_17 (by decide) (fun h17 => ?_) (fun h17 => ?_)
    · have hf := xif_t hf h17
      refine xV_iconst 28 rfl dX9_apart_27 xy_im1 ?_
      obtain rfl := Option.some.inj hf
      exact xV_iret hX dX9_apart_28 rfl (Nat.zero_le _) (Nat.zero_le _)
    · have hf := xif_f hf h17
      refine xV_iload_n 21 rfl dX9_apart_20 rfl 2 rfl ?_
      obtain ⟨v21, hv21, hf⟩ := xb_s hf
      refine xV_st0 (rest := []) 24 rfl dX9_apart_21 rfl (C9_isPart X.1.2.1 hv21) m9_isPart s9_isPart k9_204 rfl (Nat.le_of_ble_eq_true rfl) (Nat.le_of_ble_eq_true rfl) (Nat.le_of_ble_eq_true rfl) ⟨Nat.le_refl _, Nat.le_refl _⟩ ?_
      show xV (j9_apart) X 0 0 (hXx c_chance c_n_fields c_n_ties c_n_worth c_n_forces c_n_many c_n_codes c_n_b_list c_n_b_many c_n_p_list c_n_p_weights c_n_p_drawn c_n_p_many c_n_p_all c_n_p_turns c_l_fault c_l_t_bytes c_l_t_many c_l_t_kind c_l_t_from c_l_t_behind c_l_t_end c_l_s_fields c_l_s_ties c_l_s_worth c_l_s_forces c_l_s_many c_l_s_codes c_l_s_b_list c_l_s_b_many c_l_s_p_list c_l_s_p_weights c_l_s_p_drawn c_l_s_p_many c_l_s_p_all c_l_s_p_turns c_nt_seen c_nt_many c_v_kept c_v_many c_v_turns c_v_stale c_v_goes c_v_row c_w_all c_w_mass c_g_picks c_g_many c_g_table c_g_rowNames c_g_columnNames c_g_rows c_g_columns c_g_scale) 24 [(0, .ref 0), (1, .int x1), (2, .int x2)] [.int v21]
      refine xV_if_ne (tgt := 29) 27 rfl dX9_apart_24 (by decide) (fun h24 => ?_) (fun h24 => ?_)
      · have hf := xif_f hf h24
        refine xV_aload_n 30 rfl dX9_apart_29 rfl 0 rfl ?_
        refine xV_get (v := .ref 1) 33 rfl dX9_apart_30 f9_12 rfl rfl ?_
        refine xV_get (v := .ref 13) 36 rfl dX9_apart_33 f9_77 rfl rfl ?_
        refine xV_iload_n 37 rfl dX9_apart_36 rfl 1 rfl ?_
        obtain ⟨hg37, hf⟩ := xg_s hf
        refine xV_aaload (b := (14 + 4 * (xn x1))) 38 rfl dX9_apart_37 rfl rfl rfl (xin_ok hg37) (by show ([14, 18] : List Nat)[(xn x1)]? = some (14 + 4 * (xn x1)); have hi := xin_lt hg37; generalize (xn x1) = i at hi ⊢; match i, hi with | 0, _ => rfl | 1, _ => rfl) ?_
        refine xV_astore_n (L' := [(3, .ref (14 + 4 * (xn x1))), (0, .ref 0), (1, .int x1), (2, .int x2)]) 39 rfl dX9_apart_38 rfl (xlt rfl) rfl ?_
        refine xV_iconst 40 rfl dX9_apart_39 xy_i0 ?_
        refine xV_istore (L' := [(4, .int (0 : Int32)), (3, .ref (14 + 4 * (xn x1))), (0, .ref 0), (1, .int x1), (2, .int x2)]) 42 rfl dX9_apart_40 (xlt rfl) rfl ?_
        refine xV_iconst 43 rfl dX9_apart_42 xy_i0 ?_
        refine xV_istore (L' := [(5, .int (0 : Int32)), (4, .int (0 : Int32)), (3, .ref (14 + 4 * (xn x1))), (0, .ref 0), (1, .int x1), (2, .int x2)]) 45 rfl dX9_apart_43 (xlt rfl) rfl ?_
        refine xV_sub [3, 4, 5, 2, 1, 0] rfl ?_
        exact T9_apart_b45 hX _ hf
      · have hf := xif_t hf h24
        refine xV_iconst 28 rfl dX9_apart_27 xy_im1 ?_
        obtain rfl := Option.some.inj hf
        exact xV_iret hX dX9_apart_28 rfl (Nat.zero_le _) (Nat.zero_le _)
theorem C9_apart (l : Launch) {z : Nat} {x1 : Int32} {x2 : Int32} {c_n_many : (Nat → Int32)} {c_n_p_list : (Nat → Nat → Int32)} {c_n_p_weights : (Nat → Nat → Int32)} {c_n_p_many : (Nat → Int32)} {c_n_p_all : (Nat → Int32)} {c_nt_seen : (Nat → Nat → Int32)} {c_nt_many : (Nat → Int32)} {c_chance : Int32} {c_n_fields : Int32} {c_n_ties : Int32} {c_n_worth : (Nat → Int32)} {c_n_forces : (Nat → Int32)} {c_n_codes : (Nat → Nat → Int32)} {c_n_b_list : (Nat → Nat → Int32)} {c_n_b_many : (Nat → Int32)} {c_n_p_drawn : (Nat → Nat → Int32)} {c_n_p_turns : (Nat → Int32)} {c_l_fault : Int32} {c_l_t_bytes : (Nat → Int32)} {c_l_t_many : Int32} {c_l_t_kind : Int32} {c_l_t_from : Int32} {c_l_t_behind : Int32} {c_l_t_end : Int32} {c_l_s_fields : Int32} {c_l_s_ties : Int32} {c_l_s_worth : (Nat → Int32)} {c_l_s_forces : (Nat → Int32)} {c_l_s_many : (Nat → Int32)} {c_l_s_codes : (Nat → Nat → Int32)} {c_l_s_b_list : (Nat → Nat → Int32)} {c_l_s_b_many : (Nat → Int32)} {c_l_s_p_list : (Nat → Nat → Int32)} {c_l_s_p_weights : (Nat → Nat → Int32)} {c_l_s_p_drawn : (Nat → Nat → Int32)} {c_l_s_p_many : (Nat → Int32)} {c_l_s_p_all : (Nat → Int32)} {c_l_s_p_turns : (Nat → Int32)} {c_v_kept : (Nat → Nat → Int32)} {c_v_many : (Nat → Int32)} {c_v_turns : Int32} {c_v_stale : Int32} {c_v_goes : (Nat → Nat → Int32)} {c_v_row : (Nat → Int32)} {c_w_all : Int32} {c_w_mass : (Nat → Nat → Int32)} {c_g_picks : (Nat → Nat → Int32)} {c_g_many : (Nat → Int32)} {c_g_table : (Nat → Nat → Int64)} {c_g_rowNames : (Nat → Int32)} {c_g_columnNames : (Nat → Int32)} {c_g_rows : Int32} {c_g_columns : Int32} {c_g_scale : Int64} {v : Int32} (hf : F9_apart z x1 x2 c_n_many c_n_p_list c_n_p_weights c_n_p_many c_n_p_all c_nt_seen c_nt_many = some v) : xCt l yX9_apart ((some .int)) j9_apart [.ref 0, .int x1, .int x2] (hXx c_chance c_n_fields c_n_ties c_n_worth c_n_forces c_n_many c_n_codes c_n_b_list c_n_b_many c_n_p_list c_n_p_weights c_n_p_drawn c_n_p_many c_n_p_all c_n_p_turns c_l_fault c_l_t_bytes c_l_t_many c_l_t_kind c_l_t_from c_l_t_behind c_l_t_end c_l_s_fields c_l_s_ties c_l_s_worth c_l_s_forces c_l_s_many c_l_s_codes c_l_s_b_list c_l_s_b_many c_l_s_p_list c_l_s_p_weights c_l_s_p_drawn c_l_s_p_many c_l_s_p_all c_l_s_p_turns c_nt_seen c_nt_many c_v_kept c_v_many c_v_turns c_v_stale c_v_goes c_v_row c_w_all c_w_mass c_g_picks c_g_many c_g_table c_g_rowNames c_g_columnNames c_g_rows c_g_columns c_g_scale) (some (.int v)) (hXx c_chance c_n_fields c_n_ties c_n_worth c_n_forces c_n_many c_n_codes c_n_b_list c_n_b_many c_n_p_list c_n_p_weights c_n_p_drawn c_n_p_many c_n_p_all c_n_p_turns c_l_fault c_l_t_bytes c_l_t_many c_l_t_kind c_l_t_from c_l_t_behind c_l_t_end c_l_s_fields c_l_s_ties c_l_s_worth c_l_s_forces c_l_s_many c_l_s_codes c_l_s_b_list c_l_s_b_many c_l_s_p_list c_l_s_p_weights c_l_s_p_drawn c_l_s_p_many c_l_s_p_all c_l_s_p_turns c_nt_seen c_nt_many c_v_kept c_v_many c_v_turns c_v_stale c_v_goes c_v_row c_w_all c_w_mass c_g_picks c_g_many c_g_table c_g_rowNames c_g_columnNames c_g_rows c_g_columns c_g_scale) := xCt_of (by decide) rfl (Nat.le_of_ble_eq_true rfl) (fun _ hX => T9_apart hX hf)
theorem m9_apart : xMd yX9_apart RX9 ((some .int)) j9_apart 2 := ⟨List.mem_of_getElem? (i := 1278) (by decide +kernel), List.mem_of_getElem? (i := 2) (by decide +kernel), rfl, by decide +kernel⟩
theorem v9_apart : xMv yX9_apart RX9 := ⟨List.mem_of_getElem? (i := 1276) (by decide +kernel), List.mem_of_getElem? (i := 1277) (by decide +kernel)⟩
theorem dX9_worthOrNone_0 : decode cX9_worthOrNone 0 = .ok (.iload_n 1, 1) := by decide +kernel
theorem dX9_worthOrNone_1 : decode cX9_worthOrNone 1 = .ok (.ifCond .lt 8, 3) := by decide +kernel
theorem dX9_worthOrNone_4 : decode cX9_worthOrNone 4 = .ok (.iload_n 1, 1) := by decide +kernel
theorem dX9_worthOrNone_5 : decode cX9_worthOrNone 5 = .ok (.iconst 4, 1) := by decide +kernel
theorem dX9_worthOrNone_6 : decode cX9_worthOrNone 6 = .ok (.if_icmp .lt 6, 3) := by decide +kernel
theorem dX9_worthOrNone_9 : decode cX9_worthOrNone 9 = .ok (.bipush (-100), 2) := by decide +kernel
theorem dX9_worthOrNone_11 : decode cX9_worthOrNone 11 = .ok (.ireturn, 1) := by decide +kernel
theorem dX9_worthOrNone_12 : decode cX9_worthOrNone 12 = .ok (.iload_n 1, 1) := by decide +kernel
theorem dX9_worthOrNone_13 : decode cX9_worthOrNone 13 = .ok (.aload_n 0, 1) := by decide +kernel
theorem dX9_worthOrNone_14 : decode cX9_worthOrNone 14 = .ok (.getfield 12, 3) := by decide +kernel
theorem dX9_worthOrNone_17 : decode cX9_worthOrNone 17 = .ok (.getfield 93, 3) := by decide +kernel
theorem dX9_worthOrNone_20 : decode cX9_worthOrNone 20 = .ok (.if_icmp .ge 15, 3) := by decide +kernel
theorem dX9_worthOrNone_23 : decode cX9_worthOrNone 23 = .ok (.aload_n 0, 1) := by decide +kernel
theorem dX9_worthOrNone_24 : decode cX9_worthOrNone 24 = .ok (.getfield 12, 3) := by decide +kernel
theorem dX9_worthOrNone_27 : decode cX9_worthOrNone 27 = .ok (.getfield 100, 3) := by decide +kernel
theorem dX9_worthOrNone_30 : decode cX9_worthOrNone 30 = .ok (.iload_n 1, 1) := by decide +kernel
theorem dX9_worthOrNone_31 : decode cX9_worthOrNone 31 = .ok (.iaload, 1) := by decide +kernel
theorem dX9_worthOrNone_32 : decode cX9_worthOrNone 32 = .ok (.goto 4, 3) := by decide +kernel
theorem dX9_worthOrNone_35 : decode cX9_worthOrNone 35 = .ok (.iconst 0, 1) := by decide +kernel
theorem dX9_worthOrNone_36 : decode cX9_worthOrNone 36 = .ok (.ireturn, 1) := by decide +kernel
abbrev j9_worthOrNone : xJ := (cX9_worthOrNone, 2, RX9, 1, 0, 0)
def F9_worthOrNone (x1 : Int32) (c_n_fields : Int32) (c_n_worth : (Nat → Int32)) : Option (Int32) :=
  if x1 < 0 then (some ((-100 : Int32))) else (if x1 < (4 : Int32) then (if c_n_fields ≤ x1 then (some ((0 : Int32))) else (xg (xin x1 4) (some ((c_n_worth (xn x1)))))) else (some ((-100 : Int32))))
theorem T9_worthOrNone {X : xX} {x1 : Int32} {c_n_fields : Int32} {c_n_worth : (Nat → Int32)} {c_chance : Int32} {c_n_ties : Int32} {c_n_forces : (Nat → Int32)} {c_n_many : (Nat → Int32)} {c_n_codes : (Nat → Nat → Int32)} {c_n_b_list : (Nat → Nat → Int32)} {c_n_b_many : (Nat → Int32)} {c_n_p_list : (Nat → Nat → Int32)} {c_n_p_weights : (Nat → Nat → Int32)} {c_n_p_drawn : (Nat → Nat → Int32)} {c_n_p_many : (Nat → Int32)} {c_n_p_all : (Nat → Int32)} {c_n_p_turns : (Nat → Int32)} {c_l_fault : Int32} {c_l_t_bytes : (Nat → Int32)} {c_l_t_many : Int32} {c_l_t_kind : Int32} {c_l_t_from : Int32} {c_l_t_behind : Int32} {c_l_t_end : Int32} {c_l_s_fields : Int32} {c_l_s_ties : Int32} {c_l_s_worth : (Nat → Int32)} {c_l_s_forces : (Nat → Int32)} {c_l_s_many : (Nat → Int32)} {c_l_s_codes : (Nat → Nat → Int32)} {c_l_s_b_list : (Nat → Nat → Int32)} {c_l_s_b_many : (Nat → Int32)} {c_l_s_p_list : (Nat → Nat → Int32)} {c_l_s_p_weights : (Nat → Nat → Int32)} {c_l_s_p_drawn : (Nat → Nat → Int32)} {c_l_s_p_many : (Nat → Int32)} {c_l_s_p_all : (Nat → Int32)} {c_l_s_p_turns : (Nat → Int32)} {c_nt_seen : (Nat → Nat → Int32)} {c_nt_many : (Nat → Int32)} {c_v_kept : (Nat → Nat → Int32)} {c_v_many : (Nat → Int32)} {c_v_turns : Int32} {c_v_stale : Int32} {c_v_goes : (Nat → Nat → Int32)} {c_v_row : (Nat → Int32)} {c_w_all : Int32} {c_w_mass : (Nat → Nat → Int32)} {c_g_picks : (Nat → Nat → Int32)} {c_g_many : (Nat → Int32)} {c_g_table : (Nat → Nat → Int64)} {c_g_rowNames : (Nat → Int32)} {c_g_columnNames : (Nat → Int32)} {c_g_rows : Int32} {c_g_columns : Int32} {c_g_scale : Int64} {v : Int32} (hX : xIs (j9_worthOrNone) X ((some .int)) (some (.int v)) (hXx c_chance c_n_fields c_n_ties c_n_worth c_n_forces c_n_many c_n_codes c_n_b_list c_n_b_many c_n_p_list c_n_p_weights c_n_p_drawn c_n_p_many c_n_p_all c_n_p_turns c_l_fault c_l_t_bytes c_l_t_many c_l_t_kind c_l_t_from c_l_t_behind c_l_t_end c_l_s_fields c_l_s_ties c_l_s_worth c_l_s_forces c_l_s_many c_l_s_codes c_l_s_b_list c_l_s_b_many c_l_s_p_list c_l_s_p_weights c_l_s_p_drawn c_l_s_p_many c_l_s_p_all c_l_s_p_turns c_nt_seen c_nt_many c_v_kept c_v_many c_v_turns c_v_stale c_v_goes c_v_row c_w_all c_w_mass c_g_picks c_g_many c_g_table c_g_rowNames c_g_columnNames c_g_rows c_g_columns c_g_scale)) (hf : F9_worthOrNone x1 c_n_fields c_n_worth = some v) : xV (j9_worthOrNone) X 0 0 (hXx c_chance c_n_fields c_n_ties c_n_worth c_n_forces c_n_many c_n_codes c_n_b_list c_n_b_many c_n_p_list c_n_p_weights c_n_p_drawn c_n_p_many c_n_p_all c_n_p_turns c_l_fault c_l_t_bytes c_l_t_many c_l_t_kind c_l_t_from c_l_t_behind c_l_t_end c_l_s_fields c_l_s_ties c_l_s_worth c_l_s_forces c_l_s_many c_l_s_codes c_l_s_b_list c_l_s_b_many c_l_s_p_list c_l_s_p_weights c_l_s_p_drawn c_l_s_p_many c_l_s_p_all c_l_s_p_turns c_nt_seen c_nt_many c_v_kept c_v_many c_v_turns c_v_stale c_v_goes c_v_row c_w_all c_w_mass c_g_picks c_g_many c_g_table c_g_rowNames c_g_columnNames c_g_rows c_g_columns c_g_scale) 0 [(0, .ref 0), (1, .int x1)] [] := by
  unfold F9_worthOrNone at hf
  refine xV_iload_n 1 rfl dX9_worthOrNone_0 rfl 1 rfl ?_
  refine xV_if_lt (tgt := 9) 4 rfl dX9_worthOrNone_1 (by decide) (fun h1 => ?_) (fun h1 => ?_)
  · have hf := xif_t hf h1
    refine xV_bipush 11 rfl dX9_worthOrNone_9 xy_bm100 ?_
    obtain rfl := Option.some.inj hf
    exact xV_iret hX dX9_worthOrNone_11 rfl (Nat.zero_le _) (Nat.zero_le _)
  · have hf := xif_f hf h1
    refine xV_iload_n 5 rfl dX9_worthOrNone_4 rfl 1 rfl ?_
    refine xV_iconst 6 rfl dX9_worthOrNone_5 xy_i4 ?_
    refine xV_icmp_lt (tgt := 12) 9 rfl dX9_worthOrNone_6 (by decide) (fun h6 => ?_) (fun h6 => ?_)
    · have hf := xif_t hf h6
      refine xV_iload_n 13 rfl dX9_worthOrNone_12 rfl 1 rfl ?_
      refine xV_aload_n 14 rfl dX9_worthOrNone_13 rfl 0 rfl ?_
      refine xV_get (v := .ref 1) 17 rfl dX9_worthOrNone_14 f9_12 rfl rfl ?_
      refine xV_get (v := .int c_n_fields) 20 rfl dX9_worthOrNone_17 f9_93 rfl rfl ?_
      refine xV_icmp_ge (tgt := 35) 23 rfl dX9_worthOrNone_20 (by decide) (fun h20 => ?_) (fun h20 => ?_)
      · have hf := xif_t hf h20
        refine xV_iconst 36 rfl dX9_worthOrNone_35 xy_i0 ?_
        obtain rfl := Option.some.inj hf
        exact xV_iret hX dX9_worthOrNone_36 rfl (Nat.zero_le _) (Nat.zero_le _)
      · have hf := xif_f hf h20
        refine xV_aload_n 24 rfl dX9_worthOrNone_23 rfl 0 rfl ?_
        refine xV_get (v := .ref 1) 27 rfl dX9_worthOrNone_24 f9_12 rfl rfl ?_
        refine xV_get (v := .ref 2) 30 rfl dX9_worthOrNone_27 f9_100 rfl rfl ?_
        refine xV_iload_n 31 rfl dX9_worthOrNone_30 rfl 1 rfl ?_
        obtain ⟨hg31, hf⟩ := xg_s hf
        refine xV_iaload 32 rfl dX9_worthOrNone_31 rfl (xin_ok hg31) rfl ?_
        refine xV_goto (tgt := 36) dX9_worthOrNone_32 (by decide) ?_
        obtain rfl := Option.some.inj hf
        exact xV_iret hX dX9_worthOrNone_36 rfl (Nat.zero_le _) (Nat.zero_le _)
    · have hf := xif_f hf h6
      refine xV_bipush 11 rfl dX9_worthOrNone_9 xy_bm100 ?_
      obtain rfl := Option.some.inj hf
      exact xV_iret hX dX9_worthOrNone_11 rfl (Nat.zero_le _) (Nat.zero_le _)
theorem C9_worthOrNone (l : Launch) {x1 : Int32} {c_n_fields : Int32} {c_n_worth : (Nat → Int32)} {c_chance : Int32} {c_n_ties : Int32} {c_n_forces : (Nat → Int32)} {c_n_many : (Nat → Int32)} {c_n_codes : (Nat → Nat → Int32)} {c_n_b_list : (Nat → Nat → Int32)} {c_n_b_many : (Nat → Int32)} {c_n_p_list : (Nat → Nat → Int32)} {c_n_p_weights : (Nat → Nat → Int32)} {c_n_p_drawn : (Nat → Nat → Int32)} {c_n_p_many : (Nat → Int32)} {c_n_p_all : (Nat → Int32)} {c_n_p_turns : (Nat → Int32)} {c_l_fault : Int32} {c_l_t_bytes : (Nat → Int32)} {c_l_t_many : Int32} {c_l_t_kind : Int32} {c_l_t_from : Int32} {c_l_t_behind : Int32} {c_l_t_end : Int32} {c_l_s_fields : Int32} {c_l_s_ties : Int32} {c_l_s_worth : (Nat → Int32)} {c_l_s_forces : (Nat → Int32)} {c_l_s_many : (Nat → Int32)} {c_l_s_codes : (Nat → Nat → Int32)} {c_l_s_b_list : (Nat → Nat → Int32)} {c_l_s_b_many : (Nat → Int32)} {c_l_s_p_list : (Nat → Nat → Int32)} {c_l_s_p_weights : (Nat → Nat → Int32)} {c_l_s_p_drawn : (Nat → Nat → Int32)} {c_l_s_p_many : (Nat → Int32)} {c_l_s_p_all : (Nat → Int32)} {c_l_s_p_turns : (Nat → Int32)} {c_nt_seen : (Nat → Nat → Int32)} {c_nt_many : (Nat → Int32)} {c_v_kept : (Nat → Nat → Int32)} {c_v_many : (Nat → Int32)} {c_v_turns : Int32} {c_v_stale : Int32} {c_v_goes : (Nat → Nat → Int32)} {c_v_row : (Nat → Int32)} {c_w_all : Int32} {c_w_mass : (Nat → Nat → Int32)} {c_g_picks : (Nat → Nat → Int32)} {c_g_many : (Nat → Int32)} {c_g_table : (Nat → Nat → Int64)} {c_g_rowNames : (Nat → Int32)} {c_g_columnNames : (Nat → Int32)} {c_g_rows : Int32} {c_g_columns : Int32} {c_g_scale : Int64} {v : Int32} (hf : F9_worthOrNone x1 c_n_fields c_n_worth = some v) : xCt l yX9_worthOrNone ((some .int)) j9_worthOrNone [.ref 0, .int x1] (hXx c_chance c_n_fields c_n_ties c_n_worth c_n_forces c_n_many c_n_codes c_n_b_list c_n_b_many c_n_p_list c_n_p_weights c_n_p_drawn c_n_p_many c_n_p_all c_n_p_turns c_l_fault c_l_t_bytes c_l_t_many c_l_t_kind c_l_t_from c_l_t_behind c_l_t_end c_l_s_fields c_l_s_ties c_l_s_worth c_l_s_forces c_l_s_many c_l_s_codes c_l_s_b_list c_l_s_b_many c_l_s_p_list c_l_s_p_weights c_l_s_p_drawn c_l_s_p_many c_l_s_p_all c_l_s_p_turns c_nt_seen c_nt_many c_v_kept c_v_many c_v_turns c_v_stale c_v_goes c_v_row c_w_all c_w_mass c_g_picks c_g_many c_g_table c_g_rowNames c_g_columnNames c_g_rows c_g_columns c_g_scale) (some (.int v)) (hXx c_chance c_n_fields c_n_ties c_n_worth c_n_forces c_n_many c_n_codes c_n_b_list c_n_b_many c_n_p_list c_n_p_weights c_n_p_drawn c_n_p_many c_n_p_all c_n_p_turns c_l_fault c_l_t_bytes c_l_t_many c_l_t_kind c_l_t_from c_l_t_behind c_l_t_end c_l_s_fields c_l_s_ties c_l_s_worth c_l_s_forces c_l_s_many c_l_s_codes c_l_s_b_list c_l_s_b_many c_l_s_p_list c_l_s_p_weights c_l_s_p_drawn c_l_s_p_many c_l_s_p_all c_l_s_p_turns c_nt_seen c_nt_many c_v_kept c_v_many c_v_turns c_v_stale c_v_goes c_v_row c_w_all c_w_mass c_g_picks c_g_many c_g_table c_g_rowNames c_g_columnNames c_g_rows c_g_columns c_g_scale) := xCt_of (by decide) rfl (Nat.le_of_ble_eq_true rfl) (fun _ hX => T9_worthOrNone hX hf)
theorem m9_worthOrNone : xMd yX9_worthOrNone RX9 ((some .int)) j9_worthOrNone 1 := ⟨List.mem_of_getElem? (i := 1300) (by decide +kernel), List.mem_of_getElem? (i := 2) (by decide +kernel), rfl, by decide +kernel⟩
theorem v9_worthOrNone : xMv yX9_worthOrNone RX9 := ⟨List.mem_of_getElem? (i := 1298) (by decide +kernel), List.mem_of_getElem? (i := 1299) (by decide +kernel)⟩
theorem xy_i5 : Int32.ofInt (5) = (5 : Int32) := by decide
theorem k9_321 : Cond.methodLink RX9 321 yX9_worthOrNone ∈ wsL_law0 := List.mem_of_getElem? (i := 1297) (by decide +kernel)
theorem dX9_count_0 : decode cX9_count 0 = .ok (.iload_n 1, 1) := by decide +kernel
theorem dX9_count_1 : decode cX9_count 1 = .ok (.tableswitch 160 0 12 #[67, 75, 75, 87, 95, 103, 103, 118, 118, 134, 134, 147, 152], 67) := by decide +kernel
theorem dX9_count_68 : decode cX9_count 68 = .ok (.aload_n 0, 1) := by decide +kernel
theorem dX9_count_69 : decode cX9_count 69 = .ok (.getfield 12, 3) := by decide +kernel
theorem dX9_count_72 : decode cX9_count 72 = .ok (.getfield 93, 3) := by decide +kernel
theorem dX9_count_75 : decode cX9_count 75 = .ok (.ireturn, 1) := by decide +kernel
theorem dX9_count_76 : decode cX9_count 76 = .ok (.aload_n 0, 1) := by decide +kernel
theorem dX9_count_77 : decode cX9_count 77 = .ok (.getfield 12, 3) := by decide +kernel
theorem dX9_count_80 : decode cX9_count 80 = .ok (.getfield 111, 3) := by decide +kernel
theorem dX9_count_83 : decode cX9_count 83 = .ok (.iload_n 1, 1) := by decide +kernel
theorem dX9_count_84 : decode cX9_count 84 = .ok (.iconst 1, 1) := by decide +kernel
theorem dX9_count_85 : decode cX9_count 85 = .ok (.isub, 1) := by decide +kernel
theorem dX9_count_86 : decode cX9_count 86 = .ok (.iaload, 1) := by decide +kernel
theorem dX9_count_87 : decode cX9_count 87 = .ok (.ireturn, 1) := by decide +kernel
theorem dX9_count_88 : decode cX9_count 88 = .ok (.aload_n 0, 1) := by decide +kernel
theorem dX9_count_89 : decode cX9_count 89 = .ok (.getfield 12, 3) := by decide +kernel
theorem dX9_count_92 : decode cX9_count 92 = .ok (.getfield 114, 3) := by decide +kernel
theorem dX9_count_95 : decode cX9_count 95 = .ok (.ireturn, 1) := by decide +kernel
theorem dX9_count_96 : decode cX9_count 96 = .ok (.aload_n 0, 1) := by decide +kernel
theorem dX9_count_97 : decode cX9_count 97 = .ok (.getfield 12, 3) := by decide +kernel
theorem dX9_count_100 : decode cX9_count 100 = .ok (.invokevirtual 96, 3) := by decide +kernel
theorem dX9_count_103 : decode cX9_count 103 = .ok (.ireturn, 1) := by decide +kernel
theorem dX9_count_104 : decode cX9_count 104 = .ok (.aload_n 0, 1) := by decide +kernel
theorem dX9_count_105 : decode cX9_count 105 = .ok (.getfield 12, 3) := by decide +kernel
theorem dX9_count_108 : decode cX9_count 108 = .ok (.getfield 190, 3) := by decide +kernel
theorem dX9_count_111 : decode cX9_count 111 = .ok (.iload_n 1, 1) := by decide +kernel
theorem dX9_count_112 : decode cX9_count 112 = .ok (.iconst 5, 1) := by decide +kernel
theorem dX9_count_113 : decode cX9_count 113 = .ok (.isub, 1) := by decide +kernel
theorem dX9_count_114 : decode cX9_count 114 = .ok (.aaload, 1) := by decide +kernel
theorem dX9_count_115 : decode cX9_count 115 = .ok (.getfield 197, 3) := by decide +kernel
theorem dX9_count_118 : decode cX9_count 118 = .ok (.ireturn, 1) := by decide +kernel
theorem dX9_count_119 : decode cX9_count 119 = .ok (.aload_n 0, 1) := by decide +kernel
theorem dX9_count_120 : decode cX9_count 120 = .ok (.getfield 12, 3) := by decide +kernel
theorem dX9_count_123 : decode cX9_count 123 = .ok (.getfield 77, 3) := by decide +kernel
theorem dX9_count_126 : decode cX9_count 126 = .ok (.iload_n 1, 1) := by decide +kernel
theorem dX9_count_127 : decode cX9_count 127 = .ok (.bipush 7, 2) := by decide +kernel
theorem dX9_count_129 : decode cX9_count 129 = .ok (.isub, 1) := by decide +kernel
theorem dX9_count_130 : decode cX9_count 130 = .ok (.aaload, 1) := by decide +kernel
theorem dX9_count_131 : decode cX9_count 131 = .ok (.getfield 250, 3) := by decide +kernel
theorem dX9_count_134 : decode cX9_count 134 = .ok (.ireturn, 1) := by decide +kernel
theorem dX9_count_135 : decode cX9_count 135 = .ok (.aload_n 0, 1) := by decide +kernel
theorem dX9_count_136 : decode cX9_count 136 = .ok (.getfield 30, 3) := by decide +kernel
theorem dX9_count_139 : decode cX9_count 139 = .ok (.iload_n 1, 1) := by decide +kernel
theorem dX9_count_140 : decode cX9_count 140 = .ok (.bipush 9, 2) := by decide +kernel
theorem dX9_count_142 : decode cX9_count 142 = .ok (.isub, 1) := by decide +kernel
theorem dX9_count_143 : decode cX9_count 143 = .ok (.aaload, 1) := by decide +kernel
theorem dX9_count_144 : decode cX9_count 144 = .ok (.getfield 310, 3) := by decide +kernel
theorem dX9_count_147 : decode cX9_count 147 = .ok (.ireturn, 1) := by decide +kernel
theorem dX9_count_148 : decode cX9_count 148 = .ok (.aload_n 0, 1) := by decide +kernel
theorem dX9_count_149 : decode cX9_count 149 = .ok (.getfield 296, 3) := by decide +kernel
theorem dX9_count_152 : decode cX9_count 152 = .ok (.ireturn, 1) := by decide +kernel
theorem dX9_count_153 : decode cX9_count 153 = .ok (.aload_n 0, 1) := by decide +kernel
theorem dX9_count_154 : decode cX9_count 154 = .ok (.getfield 27, 3) := by decide +kernel
theorem dX9_count_157 : decode cX9_count 157 = .ok (.getfield 56, 3) := by decide +kernel
theorem dX9_count_160 : decode cX9_count 160 = .ok (.ireturn, 1) := by decide +kernel
theorem dX9_count_161 : decode cX9_count 161 = .ok (.aload_n 0, 1) := by decide +kernel
theorem dX9_count_162 : decode cX9_count 162 = .ok (.iload_n 1, 1) := by decide +kernel
theorem dX9_count_163 : decode cX9_count 163 = .ok (.bipush 20, 2) := by decide +kernel
theorem dX9_count_165 : decode cX9_count 165 = .ok (.isub, 1) := by decide +kernel
theorem dX9_count_166 : decode cX9_count 166 = .ok (.invokevirtual 321, 3) := by decide +kernel
theorem dX9_count_169 : decode cX9_count 169 = .ok (.ireturn, 1) := by decide +kernel
abbrev j9_count : xJ := (cX9_count, 2, RX9, 2, 0, 0)
def F9_count_b76 (z : Nat) (x1 : Int32) (c_chance : Int32) (c_n_fields : Int32) (c_n_ties : Int32) (c_n_worth : (Nat → Int32)) (c_n_forces : (Nat → Int32)) (c_n_b_many : (Nat → Int32)) (c_n_p_many : (Nat → Int32)) (c_l_t_many : Int32) (c_nt_many : (Nat → Int32)) : Option (Int32) :=
  xg (xin (x1 - (1 : Int32)) 2) (some ((c_n_forces (xn (x1 - (1 : Int32))))))
theorem T9_count_b76 {X : xX} {c_n_many : (Nat → Int32)} {c_n_codes : (Nat → Nat → Int32)} {c_n_b_list : (Nat → Nat → Int32)} {c_n_p_list : (Nat → Nat → Int32)} {c_n_p_weights : (Nat → Nat → Int32)} {c_n_p_drawn : (Nat → Nat → Int32)} {c_n_p_all : (Nat → Int32)} {c_n_p_turns : (Nat → Int32)} {c_l_fault : Int32} {c_l_t_bytes : (Nat → Int32)} {c_l_t_kind : Int32} {c_l_t_from : Int32} {c_l_t_behind : Int32} {c_l_t_end : Int32} {c_l_s_fields : Int32} {c_l_s_ties : Int32} {c_l_s_worth : (Nat → Int32)} {c_l_s_forces : (Nat → Int32)} {c_l_s_many : (Nat → Int32)} {c_l_s_codes : (Nat → Nat → Int32)} {c_l_s_b_list : (Nat → Nat → Int32)} {c_l_s_b_many : (Nat → Int32)} {c_l_s_p_list : (Nat → Nat → Int32)} {c_l_s_p_weights : (Nat → Nat → Int32)} {c_l_s_p_drawn : (Nat → Nat → Int32)} {c_l_s_p_many : (Nat → Int32)} {c_l_s_p_all : (Nat → Int32)} {c_l_s_p_turns : (Nat → Int32)} {c_nt_seen : (Nat → Nat → Int32)} {c_v_kept : (Nat → Nat → Int32)} {c_v_many : (Nat → Int32)} {c_v_turns : Int32} {c_v_stale : Int32} {c_v_goes : (Nat → Nat → Int32)} {c_v_row : (Nat → Int32)} {c_w_all : Int32} {c_w_mass : (Nat → Nat → Int32)} {c_g_picks : (Nat → Nat → Int32)} {c_g_many : (Nat → Int32)} {c_g_table : (Nat → Nat → Int64)} {c_g_rowNames : (Nat → Int32)} {c_g_columnNames : (Nat → Int32)} {c_g_rows : Int32} {c_g_columns : Int32} {c_g_scale : Int64} {x1 : Int32} {c_chance : Int32} {c_n_fields : Int32} {c_n_ties : Int32} {c_n_worth : (Nat → Int32)} {c_n_forces : (Nat → Int32)} {c_n_b_many : (Nat → Int32)} {c_n_p_many : (Nat → Int32)} {c_l_t_many : Int32} {c_nt_many : (Nat → Int32)} {z : Nat} {v : Int32} (hX : xIs (j9_count) X ((some .int)) (some (.int v)) (hXx c_chance c_n_fields c_n_ties c_n_worth c_n_forces c_n_many c_n_codes c_n_b_list c_n_b_many c_n_p_list c_n_p_weights c_n_p_drawn c_n_p_many c_n_p_all c_n_p_turns c_l_fault c_l_t_bytes c_l_t_many c_l_t_kind c_l_t_from c_l_t_behind c_l_t_end c_l_s_fields c_l_s_ties c_l_s_worth c_l_s_forces c_l_s_many c_l_s_codes c_l_s_b_list c_l_s_b_many c_l_s_p_list c_l_s_p_weights c_l_s_p_drawn c_l_s_p_many c_l_s_p_all c_l_s_p_turns c_nt_seen c_nt_many c_v_kept c_v_many c_v_turns c_v_stale c_v_goes c_v_row c_w_all c_w_mass c_g_picks c_g_many c_g_table c_g_rowNames c_g_columnNames c_g_rows c_g_columns c_g_scale)) (hf : F9_count_b76 z x1 c_chance c_n_fields c_n_ties c_n_worth c_n_forces c_n_b_many c_n_p_many c_l_t_many c_nt_many = some v) : xV (j9_count) X 0 0 (hXx c_chance c_n_fields c_n_ties c_n_worth c_n_forces c_n_many c_n_codes c_n_b_list c_n_b_many c_n_p_list c_n_p_weights c_n_p_drawn c_n_p_many c_n_p_all c_n_p_turns c_l_fault c_l_t_bytes c_l_t_many c_l_t_kind c_l_t_from c_l_t_behind c_l_t_end c_l_s_fields c_l_s_ties c_l_s_worth c_l_s_forces c_l_s_many c_l_s_codes c_l_s_b_list c_l_s_b_many c_l_s_p_list c_l_s_p_weights c_l_s_p_drawn c_l_s_p_many c_l_s_p_all c_l_s_p_turns c_nt_seen c_nt_many c_v_kept c_v_many c_v_turns c_v_stale c_v_goes c_v_row c_w_all c_w_mass c_g_picks c_g_many c_g_table c_g_rowNames c_g_columnNames c_g_rows c_g_columns c_g_scale) 76 [(0, .ref 0), (1, .int x1)] [] := by
  unfold F9_count_b76 at hf
  refine xV_aload_n 77 rfl dX9_count_76 rfl 0 rfl ?_
  refine xV_get (v := .ref 1) 80 rfl dX9_count_77 f9_12 rfl rfl ?_
  refine xV_get (v := .ref 3) 83 rfl dX9_count_80 f9_111 rfl rfl ?_
  refine xV_iload_n 84 rfl dX9_count_83 rfl 1 rfl ?_
  refine xV_iconst 85 rfl dX9_count_84 xy_i1 ?_
  refine xV_isub 86 rfl dX9_count_85 ?_
  obtain ⟨hg86, hf⟩ := xg_s hf
  refine xV_iaload 87 rfl dX9_count_86 rfl (xin_ok hg86) rfl ?_
  obtain rfl := Option.some.inj hf
  exact xV_iret hX dX9_count_87 rfl (Nat.zero_le _) (Nat.zero_le _)
def F9_count_b104 (z : Nat) (x1 : Int32) (c_chance : Int32) (c_n_fields : Int32) (c_n_ties : Int32) (c_n_worth : (Nat → Int32)) (c_n_forces : (Nat → Int32)) (c_n_b_many : (Nat → Int32)) (c_n_p_many : (Nat → Int32)) (c_l_t_many : Int32) (c_nt_many : (Nat → Int32)) : Option (Int32) :=
  xg (xin (x1 - (5 : Int32)) 2) (some ((c_n_b_many (xn (x1 - (5 : Int32))))))
theorem T9_count_b104 {X : xX} {c_n_many : (Nat → Int32)} {c_n_codes : (Nat → Nat → Int32)} {c_n_b_list : (Nat → Nat → Int32)} {c_n_p_list : (Nat → Nat → Int32)} {c_n_p_weights : (Nat → Nat → Int32)} {c_n_p_drawn : (Nat → Nat → Int32)} {c_n_p_all : (Nat → Int32)} {c_n_p_turns : (Nat → Int32)} {c_l_fault : Int32} {c_l_t_bytes : (Nat → Int32)} {c_l_t_kind : Int32} {c_l_t_from : Int32} {c_l_t_behind : Int32} {c_l_t_end : Int32} {c_l_s_fields : Int32} {c_l_s_ties : Int32} {c_l_s_worth : (Nat → Int32)} {c_l_s_forces : (Nat → Int32)} {c_l_s_many : (Nat → Int32)} {c_l_s_codes : (Nat → Nat → Int32)} {c_l_s_b_list : (Nat → Nat → Int32)} {c_l_s_b_many : (Nat → Int32)} {c_l_s_p_list : (Nat → Nat → Int32)} {c_l_s_p_weights : (Nat → Nat → Int32)} {c_l_s_p_drawn : (Nat → Nat → Int32)} {c_l_s_p_many : (Nat → Int32)} {c_l_s_p_all : (Nat → Int32)} {c_l_s_p_turns : (Nat → Int32)} {c_nt_seen : (Nat → Nat → Int32)} {c_v_kept : (Nat → Nat → Int32)} {c_v_many : (Nat → Int32)} {c_v_turns : Int32} {c_v_stale : Int32} {c_v_goes : (Nat → Nat → Int32)} {c_v_row : (Nat → Int32)} {c_w_all : Int32} {c_w_mass : (Nat → Nat → Int32)} {c_g_picks : (Nat → Nat → Int32)} {c_g_many : (Nat → Int32)} {c_g_table : (Nat → Nat → Int64)} {c_g_rowNames : (Nat → Int32)} {c_g_columnNames : (Nat → Int32)} {c_g_rows : Int32} {c_g_columns : Int32} {c_g_scale : Int64} {x1 : Int32} {c_chance : Int32} {c_n_fields : Int32} {c_n_ties : Int32} {c_n_worth : (Nat → Int32)} {c_n_forces : (Nat → Int32)} {c_n_b_many : (Nat → Int32)} {c_n_p_many : (Nat → Int32)} {c_l_t_many : Int32} {c_nt_many : (Nat → Int32)} {z : Nat} {v : Int32} (hX : xIs (j9_count) X ((some .int)) (some (.int v)) (hXx c_chance c_n_fields c_n_ties c_n_worth c_n_forces c_n_many c_n_codes c_n_b_list c_n_b_many c_n_p_list c_n_p_weights c_n_p_drawn c_n_p_many c_n_p_all c_n_p_turns c_l_fault c_l_t_bytes c_l_t_many c_l_t_kind c_l_t_from c_l_t_behind c_l_t_end c_l_s_fields c_l_s_ties c_l_s_worth c_l_s_forces c_l_s_many c_l_s_codes c_l_s_b_list c_l_s_b_many c_l_s_p_list c_l_s_p_weights c_l_s_p_drawn c_l_s_p_many c_l_s_p_all c_l_s_p_turns c_nt_seen c_nt_many c_v_kept c_v_many c_v_turns c_v_stale c_v_goes c_v_row c_w_all c_w_mass c_g_picks c_g_many c_g_table c_g_rowNames c_g_columnNames c_g_rows c_g_columns c_g_scale)) (hf : F9_count_b104 z x1 c_chance c_n_fields c_n_ties c_n_worth c_n_forces c_n_b_many c_n_p_many c_l_t_many c_nt_many = some v) : xV (j9_count) X 0 0 (hXx c_chance c_n_fields c_n_ties c_n_worth c_n_forces c_n_many c_n_codes c_n_b_list c_n_b_many c_n_p_list c_n_p_weights c_n_p_drawn c_n_p_many c_n_p_all c_n_p_turns c_l_fault c_l_t_bytes c_l_t_many c_l_t_kind c_l_t_from c_l_t_behind c_l_t_end c_l_s_fields c_l_s_ties c_l_s_worth c_l_s_forces c_l_s_many c_l_s_codes c_l_s_b_list c_l_s_b_many c_l_s_p_list c_l_s_p_weights c_l_s_p_drawn c_l_s_p_many c_l_s_p_all c_l_s_p_turns c_nt_seen c_nt_many c_v_kept c_v_many c_v_turns c_v_stale c_v_goes c_v_row c_w_all c_w_mass c_g_picks c_g_many c_g_table c_g_rowNames c_g_columnNames c_g_rows c_g_columns c_g_scale) 104 [(0, .ref 0), (1, .int x1)] [] := by
  unfold F9_count_b104 at hf
  refine xV_aload_n 105 rfl dX9_count_104 rfl 0 rfl ?_
  refine xV_get (v := .ref 1) 108 rfl dX9_count_105 f9_12 rfl rfl ?_
  refine xV_get (v := .ref 8) 111 rfl dX9_count_108 f9_190 rfl rfl ?_
  refine xV_iload_n 112 rfl dX9_count_111 rfl 1 rfl ?_
  refine xV_iconst 113 rfl dX9_count_112 xy_i5 ?_
  refine xV_isub 114 rfl dX9_count_113 ?_
  obtain ⟨hg114, hf⟩ := xg_s hf
  refine xV_aaload (b := (9 + 2 * (xn (x1 - (5 : Int32))))) 115 rfl dX9_count_114 rfl rfl rfl (xin_ok hg114) (by show ([9, 11] : List Nat)[(xn (x1 - (5 : Int32)))]? = some (9 + 2 * (xn (x1 - (5 : Int32)))); have hi := xin_lt hg114; generalize (xn (x1 - (5 : Int32))) = i at hi ⊢; match i, hi with | 0, _ => rfl | 1, _ => rfl) ?_
  refine xV_get (v := .int (c_n_b_many (xn (x1 - (5 : Int32))))) (fs := [.ref (10 + 2 * (xn (x1 - (5 : Int32)))), .int (c_n_b_many (xn (x1 - (5 : Int32))))]) 118 rfl dX9_count_115 f9_197 (by have hi := (xin_lt hg114); generalize (xn (x1 - (5 : Int32))) = i at hi ⊢; match i, hi with | 0, _ => exact rfl | 1, _ => exact rfl) rfl ?_
  obtain rfl := Option.some.inj hf
  exact xV_iret hX dX9_count_118 rfl (Nat.zero_le _) (Nat.zero_le _)
def F9_count_b119 (z : Nat) (x1 : Int32) (c_chance : Int32) (c_n_fields : Int32) (c_n_ties : Int32) (c_n_worth : (Nat → Int32)) (c_n_forces : (Nat → Int32)) (c_n_b_many : (Nat → Int32)) (c_n_p_many : (Nat → Int32)) (c_l_t_many : Int32) (c_nt_many : (Nat → Int32)) : Option (Int32) :=
  xg (xin (x1 - (7 : Int32)) 2) (some ((c_n_p_many (xn (x1 - (7 : Int32))))))
theorem T9_count_b119 {X : xX} {c_n_many : (Nat → Int32)} {c_n_codes : (Nat → Nat → Int32)} {c_n_b_list : (Nat → Nat → Int32)} {c_n_p_list : (Nat → Nat → Int32)} {c_n_p_weights : (Nat → Nat → Int32)} {c_n_p_drawn : (Nat → Nat → Int32)} {c_n_p_all : (Nat → Int32)} {c_n_p_turns : (Nat → Int32)} {c_l_fault : Int32} {c_l_t_bytes : (Nat → Int32)} {c_l_t_kind : Int32} {c_l_t_from : Int32} {c_l_t_behind : Int32} {c_l_t_end : Int32} {c_l_s_fields : Int32} {c_l_s_ties : Int32} {c_l_s_worth : (Nat → Int32)} {c_l_s_forces : (Nat → Int32)} {c_l_s_many : (Nat → Int32)} {c_l_s_codes : (Nat → Nat → Int32)} {c_l_s_b_list : (Nat → Nat → Int32)} {c_l_s_b_many : (Nat → Int32)} {c_l_s_p_list : (Nat → Nat → Int32)} {c_l_s_p_weights : (Nat → Nat → Int32)} {c_l_s_p_drawn : (Nat → Nat → Int32)} {c_l_s_p_many : (Nat → Int32)} {c_l_s_p_all : (Nat → Int32)} {c_l_s_p_turns : (Nat → Int32)} {c_nt_seen : (Nat → Nat → Int32)} {c_v_kept : (Nat → Nat → Int32)} {c_v_many : (Nat → Int32)} {c_v_turns : Int32} {c_v_stale : Int32} {c_v_goes : (Nat → Nat → Int32)} {c_v_row : (Nat → Int32)} {c_w_all : Int32} {c_w_mass : (Nat → Nat → Int32)} {c_g_picks : (Nat → Nat → Int32)} {c_g_many : (Nat → Int32)} {c_g_table : (Nat → Nat → Int64)} {c_g_rowNames : (Nat → Int32)} {c_g_columnNames : (Nat → Int32)} {c_g_rows : Int32} {c_g_columns : Int32} {c_g_scale : Int64} {x1 : Int32} {c_chance : Int32} {c_n_fields : Int32} {c_n_ties : Int32} {c_n_worth : (Nat → Int32)} {c_n_forces : (Nat → Int32)} {c_n_b_many : (Nat → Int32)} {c_n_p_many : (Nat → Int32)} {c_l_t_many : Int32} {c_nt_many : (Nat → Int32)} {z : Nat} {v : Int32} (hX : xIs (j9_count) X ((some .int)) (some (.int v)) (hXx c_chance c_n_fields c_n_ties c_n_worth c_n_forces c_n_many c_n_codes c_n_b_list c_n_b_many c_n_p_list c_n_p_weights c_n_p_drawn c_n_p_many c_n_p_all c_n_p_turns c_l_fault c_l_t_bytes c_l_t_many c_l_t_kind c_l_t_from c_l_t_behind c_l_t_end c_l_s_fields c_l_s_ties c_l_s_worth c_l_s_forces c_l_s_many c_l_s_codes c_l_s_b_list c_l_s_b_many c_l_s_p_list c_l_s_p_weights c_l_s_p_drawn c_l_s_p_many c_l_s_p_all c_l_s_p_turns c_nt_seen c_nt_many c_v_kept c_v_many c_v_turns c_v_stale c_v_goes c_v_row c_w_all c_w_mass c_g_picks c_g_many c_g_table c_g_rowNames c_g_columnNames c_g_rows c_g_columns c_g_scale)) (hf : F9_count_b119 z x1 c_chance c_n_fields c_n_ties c_n_worth c_n_forces c_n_b_many c_n_p_many c_l_t_many c_nt_many = some v) : xV (j9_count) X 0 0 (hXx c_chance c_n_fields c_n_ties c_n_worth c_n_forces c_n_many c_n_codes c_n_b_list c_n_b_many c_n_p_list c_n_p_weights c_n_p_drawn c_n_p_many c_n_p_all c_n_p_turns c_l_fault c_l_t_bytes c_l_t_many c_l_t_kind c_l_t_from c_l_t_behind c_l_t_end c_l_s_fields c_l_s_ties c_l_s_worth c_l_s_forces c_l_s_many c_l_s_codes c_l_s_b_list c_l_s_b_many c_l_s_p_list c_l_s_p_weights c_l_s_p_drawn c_l_s_p_many c_l_s_p_all c_l_s_p_turns c_nt_seen c_nt_many c_v_kept c_v_many c_v_turns c_v_stale c_v_goes c_v_row c_w_all c_w_mass c_g_picks c_g_many c_g_table c_g_rowNames c_g_columnNames c_g_rows c_g_columns c_g_scale) 119 [(0, .ref 0), (1, .int x1)] [] := by
  unfold F9_count_b119 at hf
  refine xV_aload_n 120 rfl dX9_count_119 rfl 0 rfl ?_
  refine xV_get (v := .ref 1) 123 rfl dX9_count_120 f9_12 rfl rfl ?_
  refine xV_get (v := .ref 13) 126 rfl dX9_count_123 f9_77 rfl rfl ?_
  refine xV_iload_n 127 rfl dX9_count_126 rfl 1 rfl ?_
  refine xV_bipush 129 rfl dX9_count_127 xy_b7 ?_
  refine xV_isub 130 rfl dX9_count_129 ?_
  obtain ⟨hg130, hf⟩ := xg_s hf
  refine xV_aaload (b := (14 + 4 * (xn (x1 - (7 : Int32))))) 131 rfl dX9_count_130 rfl rfl rfl (xin_ok hg130) (by show ([14, 18] : List Nat)[(xn (x1 - (7 : Int32)))]? = some (14 + 4 * (xn (x1 - (7 : Int32)))); have hi := xin_lt hg130; generalize (xn (x1 - (7 : Int32))) = i at hi ⊢; match i, hi with | 0, _ => rfl | 1, _ => rfl) ?_
  refine xV_get (v := .int (c_n_p_many (xn (x1 - (7 : Int32))))) (fs := [.ref (15 + 4 * (xn (x1 - (7 : Int32)))), .ref (16 + 4 * (xn (x1 - (7 : Int32)))), .ref (17 + 4 * (xn (x1 - (7 : Int32)))), .int (c_n_p_many (xn (x1 - (7 : Int32)))), .int (c_n_p_all (xn (x1 - (7 : Int32)))), .int (c_n_p_turns (xn (x1 - (7 : Int32))))]) 134 rfl dX9_count_131 f9_250 (by have hi := (xin_lt hg130); generalize (xn (x1 - (7 : Int32))) = i at hi ⊢; match i, hi with | 0, _ => exact rfl | 1, _ => exact rfl) rfl ?_
  obtain rfl := Option.some.inj hf
  exact xV_iret hX dX9_count_134 rfl (Nat.zero_le _) (Nat.zero_le _)
def F9_count_b135 (z : Nat) (x1 : Int32) (c_chance : Int32) (c_n_fields : Int32) (c_n_ties : Int32) (c_n_worth : (Nat → Int32)) (c_n_forces : (Nat → Int32)) (c_n_b_many : (Nat → Int32)) (c_n_p_many : (Nat → Int32)) (c_l_t_many : Int32) (c_nt_many : (Nat → Int32)) : Option (Int32) :=
  xg (xin (x1 - (9 : Int32)) 2) (some ((c_nt_many (xn (x1 - (9 : Int32))))))
theorem T9_count_b135 {X : xX} {c_n_many : (Nat → Int32)} {c_n_codes : (Nat → Nat → Int32)} {c_n_b_list : (Nat → Nat → Int32)} {c_n_p_list : (Nat → Nat → Int32)} {c_n_p_weights : (Nat → Nat → Int32)} {c_n_p_drawn : (Nat → Nat → Int32)} {c_n_p_all : (Nat → Int32)} {c_n_p_turns : (Nat → Int32)} {c_l_fault : Int32} {c_l_t_bytes : (Nat → Int32)} {c_l_t_kind : Int32} {c_l_t_from : Int32} {c_l_t_behind : Int32} {c_l_t_end : Int32} {c_l_s_fields : Int32} {c_l_s_ties : Int32} {c_l_s_worth : (Nat → Int32)} {c_l_s_forces : (Nat → Int32)} {c_l_s_many : (Nat → Int32)} {c_l_s_codes : (Nat → Nat → Int32)} {c_l_s_b_list : (Nat → Nat → Int32)} {c_l_s_b_many : (Nat → Int32)} {c_l_s_p_list : (Nat → Nat → Int32)} {c_l_s_p_weights : (Nat → Nat → Int32)} {c_l_s_p_drawn : (Nat → Nat → Int32)} {c_l_s_p_many : (Nat → Int32)} {c_l_s_p_all : (Nat → Int32)} {c_l_s_p_turns : (Nat → Int32)} {c_nt_seen : (Nat → Nat → Int32)} {c_v_kept : (Nat → Nat → Int32)} {c_v_many : (Nat → Int32)} {c_v_turns : Int32} {c_v_stale : Int32} {c_v_goes : (Nat → Nat → Int32)} {c_v_row : (Nat → Int32)} {c_w_all : Int32} {c_w_mass : (Nat → Nat → Int32)} {c_g_picks : (Nat → Nat → Int32)} {c_g_many : (Nat → Int32)} {c_g_table : (Nat → Nat → Int64)} {c_g_rowNames : (Nat → Int32)} {c_g_columnNames : (Nat → Int32)} {c_g_rows : Int32} {c_g_columns : Int32} {c_g_scale : Int64} {x1 : Int32} {c_chance : Int32} {c_n_fields : Int32} {c_n_ties : Int32} {c_n_worth : (Nat → Int32)} {c_n_forces : (Nat → Int32)} {c_n_b_many : (Nat → Int32)} {c_n_p_many : (Nat → Int32)} {c_l_t_many : Int32} {c_nt_many : (Nat → Int32)} {z : Nat} {v : Int32} (hX : xIs (j9_count) X ((some .int)) (some (.int v)) (hXx c_chance c_n_fields c_n_ties c_n_worth c_n_forces c_n_many c_n_codes c_n_b_list c_n_b_many c_n_p_list c_n_p_weights c_n_p_drawn c_n_p_many c_n_p_all c_n_p_turns c_l_fault c_l_t_bytes c_l_t_many c_l_t_kind c_l_t_from c_l_t_behind c_l_t_end c_l_s_fields c_l_s_ties c_l_s_worth c_l_s_forces c_l_s_many c_l_s_codes c_l_s_b_list c_l_s_b_many c_l_s_p_list c_l_s_p_weights c_l_s_p_drawn c_l_s_p_many c_l_s_p_all c_l_s_p_turns c_nt_seen c_nt_many c_v_kept c_v_many c_v_turns c_v_stale c_v_goes c_v_row c_w_all c_w_mass c_g_picks c_g_many c_g_table c_g_rowNames c_g_columnNames c_g_rows c_g_columns c_g_scale)) (hf : F9_count_b135 z x1 c_chance c_n_fields c_n_ties c_n_worth c_n_forces c_n_b_many c_n_p_many c_l_t_many c_nt_many = some v) : xV (j9_count) X 0 0 (hXx c_chance c_n_fields c_n_ties c_n_worth c_n_forces c_n_many c_n_codes c_n_b_list c_n_b_many c_n_p_list c_n_p_weights c_n_p_drawn c_n_p_many c_n_p_all c_n_p_turns c_l_fault c_l_t_bytes c_l_t_many c_l_t_kind c_l_t_from c_l_t_behind c_l_t_end c_l_s_fields c_l_s_ties c_l_s_worth c_l_s_forces c_l_s_many c_l_s_codes c_l_s_b_list c_l_s_b_many c_l_s_p_list c_l_s_p_weights c_l_s_p_drawn c_l_s_p_many c_l_s_p_all c_l_s_p_turns c_nt_seen c_nt_many c_v_kept c_v_many c_v_turns c_v_stale c_v_goes c_v_row c_w_all c_w_mass c_g_picks c_g_many c_g_table c_g_rowNames c_g_columnNames c_g_rows c_g_columns c_g_scale) 135 [(0, .ref 0), (1, .int x1)] [] := by
  unfold F9_count_b135 at hf
  refine xV_aload_n 136 rfl dX9_count_135 rfl 0 rfl ?_
  refine xV_get (v := .ref 46) 139 rfl dX9_count_136 f9_30 rfl rfl ?_
  refine xV_iload_n 140 rfl dX9_count_139 rfl 1 rfl ?_
  refine xV_bipush 142 rfl dX9_count_140 xy_b9 ?_
  refine xV_isub 143 rfl dX9_count_142 ?_
  obtain ⟨hg143, hf⟩ := xg_s hf
  refine xV_aaload (b := (47 + 2 * (xn (x1 - (9 : Int32))))) 144 rfl dX9_count_143 rfl rfl rfl (xin_ok hg143) (by show ([47, 49] : List Nat)[(xn (x1 - (9 : Int32)))]? = some (47 + 2 * (xn (x1 - (9 : Int32)))); have hi := xin_lt hg143; generalize (xn (x1 - (9 : Int32))) = i at hi ⊢; match i, hi with | 0, _ => rfl | 1, _ => rfl) ?_
  refine xV_get (v := .int (c_nt_many (xn (x1 - (9 : Int32))))) (fs := [.ref (48 + 2 * (xn (x1 - (9 : Int32)))), .int (c_nt_many (xn (x1 - (9 : Int32))))]) 147 rfl dX9_count_144 f9_310 (by have hi := (xin_lt hg143); generalize (xn (x1 - (9 : Int32))) = i at hi ⊢; match i, hi with | 0, _ => exact rfl | 1, _ => exact rfl) rfl ?_
  obtain rfl := Option.some.inj hf
  exact xV_iret hX dX9_count_147 rfl (Nat.zero_le _) (Nat.zero_le _)
def F9_count (z : Nat) (x1 : Int32) (c_chance : Int32) (c_n_fields : Int32) (c_n_ties : Int32) (c_n_worth : (Nat → Int32)) (c_n_forces : (Nat → Int32)) (c_n_b_many : (Nat → Int32)) (c_n_p_many : (Nat → Int32)) (c_l_t_many : Int32) (c_nt_many : (Nat → Int32)) : Option (Int32) :=
  if x1 = (0 : Int32) then (some (c_n_fields)) else (if x1 = (1 : Int32) then (F9_count_b76 z x1 c_chance c_n_fields c_n_ties c_n_worth c_n_forces c_n_b_many c_n_p_many c_l_t_many c_nt_many) else (if x1 = (2 : Int32) then (F9_count_b76 z x1 c_chance c_n_fields c_n_ties c_n_worth c_n_forces c_n_b_many c_n_p_many c_l_t_many c_nt_many) else (if x1 = (3 : Int32) then (some (c_n_ties)) else (if x1 = (4 : Int32) then ((F4_allWorth z c_n_fields c_n_worth).bind (fun v100 => some (v100))) else (if x1 = (5 : Int32) then (F9_count_b104 z x1 c_chance c_n_fields c_n_ties c_n_worth c_n_forces c_n_b_many c_n_p_many c_l_t_many c_nt_many) else (if x1 = (6 : Int32) then (F9_count_b104 z x1 c_chance c_n_fields c_n_ties c_n_worth c_n_forces c_n_b_many c_n_p_many c_l_t_many c_nt_many) else (if x1 = (7 : Int32) then (F9_count_b119 z x1 c_chance c_n_fields c_n_ties c_n_worth c_n_forces c_n_b_many c_n_p_many c_l_t_many c_nt_many) else (if x1 = (8 : Int32) then (F9_count_b119 z x1 c_chance c_n_fields c_n_ties c_n_worth c_n_forces c_n_b_many c_n_p_many c_l_t_many c_nt_many) else (if x1 = (9 : Int32) then (F9_count_b135 z x1 c_chance c_n_fields c_n_ties c_n_worth c_n_forces c_n_b_many c_n_p_many c_l_t_many c_nt_many) else (if x1 = (10 : Int32) then (F9_count_b135 z x1 c_chance c_n_fields c_n_ties c_n_worth c_n_forces c_n_b_many c_n_p_many c_l_t_many c_nt_many) else (if x1 = (11 : Int32) then (some (c_chance)) else (if x1 = (12 : Int32) then (some (c_l_t_many)) else ((F9_worthOrNone (x1 - (20 : Int32)) c_n_fields c_n_worth).bind (fun v166 => some (v166)))))))))))))))
theorem T9_count {X : xX} {z : Nat} {x1 : Int32} {c_chance : Int32} {c_n_fields : Int32} {c_n_ties : Int32} {c_n_worth : (Nat → Int32)} {c_n_forces : (Nat → Int32)} {c_n_b_many : (Nat → Int32)} {c_n_p_many : (Nat → Int32)} {c_l_t_many : Int32} {c_nt_many : (Nat → Int32)} {c_n_many : (Nat → Int32)} {c_n_codes : (Nat → Nat → Int32)} {c_n_b_list : (Nat → Nat → Int32)} {c_n_p_list : (Nat → Nat → Int32)} {c_n_p_weights : (Nat → Nat → Int32)} {c_n_p_drawn : (Nat → Nat → Int32)} {c_n_p_all : (Nat → Int32)} {c_n_p_turns : (Nat → Int32)} {c_l_fault : Int32} {c_l_t_bytes : (Nat → Int32)} {c_l_t_kind : Int32} {c_l_t_from : Int32} {c_l_t_behind : Int32} {c_l_t_end : Int32} {c_l_s_fields : Int32} {c_l_s_ties : Int32} {c_l_s_worth : (Nat → Int32)} {c_l_s_forces : (Nat → Int32)} {c_l_s_many : (Nat → Int32)} {c_l_s_codes : (Nat → Nat → Int32)} {c_l_s_b_list : (Nat → Nat → Int32)} {c_l_s_b_many : (Nat → Int32)} {c_l_s_p_list : (Nat → Nat → Int32)} {c_l_s_p_weights : (Nat → Nat → Int32)} {c_l_s_p_drawn : (Nat → Nat → Int32)} {c_l_s_p_many : (Nat → Int32)} {c_l_s_p_all : (Nat → Int32)} {c_l_s_p_turns : (Nat → Int32)} {c_nt_seen : (Nat → Nat → Int32)} {c_v_kept : (Nat → Nat → Int32)} {c_v_many : (Nat → Int32)} {c_v_turns : Int32} {c_v_stale : Int32} {c_v_goes : (Nat → Nat → Int32)} {c_v_row : (Nat → Int32)} {c_w_all : Int32} {c_w_mass : (Nat → Nat → Int32)} {c_g_picks : (Nat → Nat → Int32)} {c_g_many : (Nat → Int32)} {c_g_table : (Nat → Nat → Int64)} {c_g_rowNames : (Nat → Int32)} {c_g_columnNames : (Nat → Int32)} {c_g_rows : Int32} {c_g_columns : Int32} {c_g_scale : Int64} {v : Int32} (hX : xIs (j9_count) X ((some .int)) (some (.int v)) (hXx c_chance c_n_fields c_n_ties c_n_worth c_n_forces c_n_many c_n_codes c_n_b_list c_n_b_many c_n_p_list c_n_p_weights c_n_p_drawn c_n_p_many c_n_p_all c_n_p_turns c_l_fault c_l_t_bytes c_l_t_many c_l_t_kind c_l_t_from c_l_t_behind c_l_t_end c_l_s_fields c_l_s_ties c_l_s_worth c_l_s_forces c_l_s_many c_l_s_codes c_l_s_b_list c_l_s_b_many c_l_s_p_list c_l_s_p_weights c_l_s_p_drawn c_l_s_p_many c_l_s_p_all c_l_s_p_turns c_nt_seen c_nt_many c_v_kept c_v_many c_v_turns c_v_stale c_v_goes c_v_row c_w_all c_w_mass c_g_picks c_g_many c_g_table c_g_rowNames c_g_columnNames c_g_rows c_g_columns c_g_scale)) (hf : F9_count z x1 c_chance c_n_fields c_n_ties c_n_worth c_n_forces c_n_b_many c_n_p_many c_l_t_many c_nt_many = some v) : xV (j9_count) X 0 0 (hXx c_chance c_n_fields c_n_ties c_n_worth c_n_forces c_n_many c_n_codes c_n_b_list c_n_b_many c_n_p_list c_n_p_weights c_n_p_drawn c_n_p_many c_n_p_all c_n_p_turns c_l_fault c_l_t_bytes c_l_t_many c_l_t_kind c_l_t_from c_l_t_behind c_l_t_end c_l_s_fields c_l_s_ties c_l_s_worth c_l_s_forces c_l_s_many c_l_s_codes c_l_s_b_list c_l_s_b_many c_l_s_p_list c_l_s_p_weights c_l_s_p_drawn c_l_s_p_many c_l_s_p_all c_l_s_p_turns c_nt_seen c_nt_many c_v_kept c_v_many c_v_turns c_v_stale c_v_goes c_v_row c_w_all c_w_mass c_g_picks c_g_many c_g_table c_g_rowNames c_g_columnNames c_g_rows c_g_columns c_g_scale) 0 [(0, .ref 0), (1, .int x1)] [] := by
  unfold F9_count at hf
  refine xV_iload_n 1 rfl dX9_count_0 rfl 1 rfl ?_
  by_cases h1_0 : x1 = (0 : Int32)
  · have hf := xif_t hf h1_0
    refine xV_tin (tgt := 68) dX9_count_1 h1_0 (by decide) (by decide) rfl (by decide) ?_
    refine xV_aload_n 69 rfl dX9_count_68 rfl 0 rfl ?_
    refine xV_get (v := .ref 1) 72 rfl dX9_count_69 f9_12 rfl rfl ?_
    refine xV_get (v := .int c_n_fields) 75 rfl dX9_count_72 f9_93 rfl rfl ?_
    obtain rfl := Option.some.inj hf
    exact xV_iret hX dX9_count_75 rfl (Nat.zero_le _) (Nat.zero_le _)
  · have hf := xif_f hf h1_0
    by_cases h1_1 : x1 = (1 : Int32)
    · have hf := xif_t hf h1_1
      refine xV_tin (tgt := 76) dX9_count_1 h1_1 (by decide) (by decide) rfl (by decide) ?_
      exact T9_count_b76 hX hf
    · have hf := xif_f hf h1_1
      by_cases h1_2 : x1 = (2 : Int32)
      · have hf := xif_t hf h1_2
        refine xV_tin (tgt := 76) dX9_count_1 h1_2 (by decide) (by decide) rfl (by decide) ?_
        exact T9_count_b76 hX hf
      · have hf := xif_f hf h1_2
        by_cases h1_3 : x1 = (3 : Int32)
        · have hf := xif_t hf h1_3
          refine xV_tin (tgt := 88) dX9_count_1 h1_3 (by decide) (by decide) rfl (by decide) ?_
          refine xV_aload_n 89 rfl dX9_count_88 rfl 0 rfl ?_
          refine xV_get (v := .ref 1) 92 rfl dX9_count_89 f9_12 rfl rfl ?_
          refine xV_get (v := .int c_n_ties) 95 rfl dX9_count_92 f9_114 rfl rfl ?_
          obtain rfl := Option.some.inj hf
          exact xV_iret hX dX9_count_95 rfl (Nat.zero_le _) (Nat.zero_le _)
        · have hf := xif_f hf h1_3
          by_cases h1_4 : x1 = (4 : Int32)
          · have hf := xif_t hf h1_4
            refine xV_tin (tgt := 96) dX9_count_1 h1_4 (by decide) (by decide) rfl (by decide) ?_
            refine xV_aload_n 97 rfl dX9_count_96 rfl 0 rfl ?_
            refine xV_get (v := .ref 1) 100 rfl dX9_count_97 f9_12 rfl rfl ?_
            obtain ⟨v100, hv100, hf⟩ := xb_s hf
            refine xV_vir2 (g := (fun j => 1 + j)) (hl := (hS c_n_fields c_n_ties c_n_worth c_n_forces c_n_many c_n_codes c_n_b_list c_n_b_many c_n_p_list c_n_p_weights c_n_p_drawn c_n_p_many c_n_p_all c_n_p_turns)) (hl' := (hS c_n_fields c_n_ties c_n_worth c_n_forces c_n_many c_n_codes c_n_b_list c_n_b_many c_n_p_list c_n_p_weights c_n_p_drawn c_n_p_many c_n_p_all c_n_p_turns)) (h' := (hXx c_chance c_n_fields c_n_ties c_n_worth c_n_forces c_n_many c_n_codes c_n_b_list c_n_b_many c_n_p_list c_n_p_weights c_n_p_drawn c_n_p_many c_n_p_all c_n_p_turns c_l_fault c_l_t_bytes c_l_t_many c_l_t_kind c_l_t_from c_l_t_behind c_l_t_end c_l_s_fields c_l_s_ties c_l_s_worth c_l_s_forces c_l_s_many c_l_s_codes c_l_s_b_list c_l_s_b_many c_l_s_p_list c_l_s_p_weights c_l_s_p_drawn c_l_s_p_many c_l_s_p_all c_l_s_p_turns c_nt_seen c_nt_many c_v_kept c_v_many c_v_turns c_v_stale c_v_goes c_v_row c_w_all c_w_mass c_g_picks c_g_many c_g_table c_g_rowNames c_g_columnNames c_g_rows c_g_columns c_g_scale)) (rest := []) (ci := 4) 103 rfl dX9_count_100 rfl (C4_allWorth X.1.2.1 hv100) m4_allWorth v4_allWorth k9_96 rfl rfl rfl (e_Xx_S_L1) rfl (Nat.le_of_ble_eq_true rfl) (Nat.le_of_ble_eq_true rfl) (Nat.le_of_ble_eq_true rfl) ⟨Nat.le_refl _, Nat.le_refl _⟩ ?_
            show xV (j9_count) X 0 0 (hXx c_chance c_n_fields c_n_ties c_n_worth c_n_forces c_n_many c_n_codes c_n_b_list c_n_b_many c_n_p_list c_n_p_weights c_n_p_drawn c_n_p_many c_n_p_all c_n_p_turns c_l_fault c_l_t_bytes c_l_t_many c_l_t_kind c_l_t_from c_l_t_behind c_l_t_end c_l_s_fields c_l_s_ties c_l_s_worth c_l_s_forces c_l_s_many c_l_s_codes c_l_s_b_list c_l_s_b_many c_l_s_p_list c_l_s_p_weights c_l_s_p_drawn c_l_s_p_many c_l_s_p_all c_l_s_p_turns c_nt_seen c_nt_many c_v_kept c_v_many c_v_turns c_v_stale c_v_goes c_v_row c_w_all c_w_mass c_g_picks c_g_many c_g_table c_g_rowNames c_g_columnNames c_g_rows c_g_columns c_g_scale) 103 [(0, .ref 0), (1, .int x1)] [.int v100]
            obtain rfl := Option.some.inj hf
            exact xV_iret hX dX9_count_103 rfl (Nat.zero_le _) (Nat.zero_le _)
          · have hf := xif_f hf h1_4
            by_cases h1_5 : x1 = (5 : Int32)
            · have hf := xif_t hf h1_5
              refine xV_tin (tgt := 104) dX9_count_1 h1_5 (by decide) (by decide) rfl (by decide) ?_
              exact T9_count_b104 hX hf
            · have hf := xif_f hf h1_5
              by_cases h1_6 : x1 = (6 : Int32)
              · have hf := xif_t hf h1_6
                refine xV_tin (tgt := 104) dX9_count_1 h1_6 (by decide) (by decide) rfl (by decide) ?_
                exact T9_count_b104 hX hf
              · have hf := xif_f hf h1_6
                by_cases h1_7 : x1 = (7 : Int32)
                · have hf := xif_t hf h1_7
                  refine xV_tin (tgt := 119) dX9_count_1 h1_7 (by decide) (by decide) rfl (by decide) ?_
                  exact T9_count_b119 hX hf
                · have hf := xif_f hf h1_7
                  by_cases h1_8 : x1 = (8 : Int32)
                  · have hf := xif_t hf h1_8
                    refine xV_tin (tgt := 119) dX9_count_1 h1_8 (by decide) (by decide) rfl (by decide) ?_
                    exact T9_count_b119 hX hf
                  · have hf := xif_f hf h1_8
                    by_cases h1_9 : x1 = (9 : Int32)
                    · have hf := xif_t hf h1_9
                      refine xV_tin (tgt := 135) dX9_count_1 h1_9 (by decide) (by decide) rfl (by decide) ?_
                      exact T9_count_b135 hX hf
                    · have hf := xif_f hf h1_9
                      by_cases h1_10 : x1 = (10 : Int32)
                      · have hf := xif_t hf h1_10
                        refine xV_tin (tgt := 135) dX9_count_1 h1_10 (by decide) (by decide) rfl (by decide) ?_
                        exact T9_count_b135 hX hf
                      · have hf := xif_f hf h1_10
                        by_cases h1_11 : x1 = (11 : Int32)
                        · have hf := xif_t hf h1_11
                          refine xV_tin (tgt := 148) dX9_count_1 h1_11 (by decide) (by decide) rfl (by decide) ?_
                          refine xV_aload_n 149 rfl dX9_count_148 rfl 0 rfl ?_
                          refine xV_get (v := .int c_chance) 152 rfl dX9_count_149 f9_296 rfl rfl ?_
                          obtain rfl := Option.some.inj hf
                          exact xV_iret hX dX9_count_152 rfl (Nat.zero_le _) (Nat.zero_le _)
                        · have hf := xif_f hf h1_11
                          by_cases h1_12 : x1 = (12 : Int32)
                          · have hf := xif_t hf h1_12
                            refine xV_tin (tgt := 153) dX9_count_1 h1_12 (by decide) (by decide) rfl (by decide) ?_
                            refine xV_aload_n 154 rfl dX9_count_153 rfl 0 rfl ?_
                            refine xV_get (v := .ref 23) 157 rfl dX9_count_154 f9_27 rfl rfl ?_
                            refine xV_get (v := .int c_l_t_many) 160 rfl dX9_count_157 f9_56 rfl rfl ?_
                            obtain rfl := Option.some.inj hf
                            exact xV_iret hX dX9_count_160 rfl (Nat.zero_le _) (Nat.zero_le _)
                          · have hf := xif_f hf h1_12
                            refine xV_tout (tgt := 161) dX9_count_1 [(0 : Int32), (1 : Int32), (2 : Int32), (3 : Int32), (4 : Int32), (5 : Int32), (6 : Int32), (7 : Int32), (8 : Int32), (9 : Int32), (10 : Int32), (11 : Int32), (12 : Int32)] 13 (by decide) (by decide) (by simp only [List.mem_cons, List.not_mem_nil, or_false]; rintro v (rfl | rfl | rfl | rfl | rfl | rfl | rfl | rfl | rfl | rfl | rfl | rfl | rfl) <;> assumption) (by decide) ?_
                            refine xV_aload_n 162 rfl dX9_count_161 rfl 0 rfl ?_
                            refine xV_iload_n 163 rfl dX9_count_162 rfl 1 rfl ?_
                            refine xV_bipush 165 rfl dX9_count_163 xy_b20 ?_
                            refine xV_isub 166 rfl dX9_count_165 ?_
                            obtain ⟨v166, hv166, hf⟩ := xb_s hf
                            refine xV_same (rest := []) 169 rfl dX9_count_166 rfl (C9_worthOrNone X.1.2.1 hv166) m9_worthOrNone v9_worthOrNone k9_321 rfl rfl rfl rfl rfl (Nat.le_of_ble_eq_true rfl) (Nat.le_of_ble_eq_true rfl) (Nat.le_of_ble_eq_true rfl) ⟨Nat.le_refl _, Nat.le_refl _⟩ ?_
                            show xV (j9_count) X 0 0 (hXx c_chance c_n_fields c_n_ties c_n_worth c_n_forces c_n_many c_n_codes c_n_b_list c_n_b_many c_n_p_list c_n_p_weights c_n_p_drawn c_n_p_many c_n_p_all c_n_p_turns c_l_fault c_l_t_bytes c_l_t_many c_l_t_kind c_l_t_from c_l_t_behind c_l_t_end c_l_s_fields c_l_s_ties c_l_s_worth c_l_s_forces c_l_s_many c_l_s_codes c_l_s_b_list c_l_s_b_many c_l_s_p_list c_l_s_p_weights c_l_s_p_drawn c_l_s_p_many c_l_s_p_all c_l_s_p_turns c_nt_seen c_nt_many c_v_kept c_v_many c_v_turns c_v_stale c_v_goes c_v_row c_w_all c_w_mass c_g_picks c_g_many c_g_table c_g_rowNames c_g_columnNames c_g_rows c_g_columns c_g_scale) 169 [(0, .ref 0), (1, .int x1)] [.int v166]
                            obtain rfl := Option.some.inj hf
                            exact xV_iret hX dX9_count_169 rfl (Nat.zero_le _) (Nat.zero_le _)
theorem C9_count (l : Launch) {z : Nat} {x1 : Int32} {c_chance : Int32} {c_n_fields : Int32} {c_n_ties : Int32} {c_n_worth : (Nat → Int32)} {c_n_forces : (Nat → Int32)} {c_n_b_many : (Nat → Int32)} {c_n_p_many : (Nat → Int32)} {c_l_t_many : Int32} {c_nt_many : (Nat → Int32)} {c_n_many : (Nat → Int32)} {c_n_codes : (Nat → Nat → Int32)} {c_n_b_list : (Nat → Nat → Int32)} {c_n_p_list : (Nat → Nat → Int32)} {c_n_p_weights : (Nat → Nat → Int32)} {c_n_p_drawn : (Nat → Nat → Int32)} {c_n_p_all : (Nat → Int32)} {c_n_p_turns : (Nat → Int32)} {c_l_fault : Int32} {c_l_t_bytes : (Nat → Int32)} {c_l_t_kind : Int32} {c_l_t_from : Int32} {c_l_t_behind : Int32} {c_l_t_end : Int32} {c_l_s_fields : Int32} {c_l_s_ties : Int32} {c_l_s_worth : (Nat → Int32)} {c_l_s_forces : (Nat → Int32)} {c_l_s_many : (Nat → Int32)} {c_l_s_codes : (Nat → Nat → Int32)} {c_l_s_b_list : (Nat → Nat → Int32)} {c_l_s_b_many : (Nat → Int32)} {c_l_s_p_list : (Nat → Nat → Int32)} {c_l_s_p_weights : (Nat → Nat → Int32)} {c_l_s_p_drawn : (Nat → Nat → Int32)} {c_l_s_p_many : (Nat → Int32)} {c_l_s_p_all : (Nat → Int32)} {c_l_s_p_turns : (Nat → Int32)} {c_nt_seen : (Nat → Nat → Int32)} {c_v_kept : (Nat → Nat → Int32)} {c_v_many : (Nat → Int32)} {c_v_turns : Int32} {c_v_stale : Int32} {c_v_goes : (Nat → Nat → Int32)} {c_v_row : (Nat → Int32)} {c_w_all : Int32} {c_w_mass : (Nat → Nat → Int32)} {c_g_picks : (Nat → Nat → Int32)} {c_g_many : (Nat → Int32)} {c_g_table : (Nat → Nat → Int64)} {c_g_rowNames : (Nat → Int32)} {c_g_columnNames : (Nat → Int32)} {c_g_rows : Int32} {c_g_columns : Int32} {c_g_scale : Int64} {v : Int32} (hf : F9_count z x1 c_chance c_n_fields c_n_ties c_n_worth c_n_forces c_n_b_many c_n_p_many c_l_t_many c_nt_many = some v) : xCt l yX9_count ((some .int)) j9_count [.ref 0, .int x1] (hXx c_chance c_n_fields c_n_ties c_n_worth c_n_forces c_n_many c_n_codes c_n_b_list c_n_b_many c_n_p_list c_n_p_weights c_n_p_drawn c_n_p_many c_n_p_all c_n_p_turns c_l_fault c_l_t_bytes c_l_t_many c_l_t_kind c_l_t_from c_l_t_behind c_l_t_end c_l_s_fields c_l_s_ties c_l_s_worth c_l_s_forces c_l_s_many c_l_s_codes c_l_s_b_list c_l_s_b_many c_l_s_p_list c_l_s_p_weights c_l_s_p_drawn c_l_s_p_many c_l_s_p_all c_l_s_p_turns c_nt_seen c_nt_many c_v_kept c_v_many c_v_turns c_v_stale c_v_goes c_v_row c_w_all c_w_mass c_g_picks c_g_many c_g_table c_g_rowNames c_g_columnNames c_g_rows c_g_columns c_g_scale) (some (.int v)) (hXx c_chance c_n_fields c_n_ties c_n_worth c_n_forces c_n_many c_n_codes c_n_b_list c_n_b_many c_n_p_list c_n_p_weights c_n_p_drawn c_n_p_many c_n_p_all c_n_p_turns c_l_fault c_l_t_bytes c_l_t_many c_l_t_kind c_l_t_from c_l_t_behind c_l_t_end c_l_s_fields c_l_s_ties c_l_s_worth c_l_s_forces c_l_s_many c_l_s_codes c_l_s_b_list c_l_s_b_many c_l_s_p_list c_l_s_p_weights c_l_s_p_drawn c_l_s_p_many c_l_s_p_all c_l_s_p_turns c_nt_seen c_nt_many c_v_kept c_v_many c_v_turns c_v_stale c_v_goes c_v_row c_w_all c_w_mass c_g_picks c_g_many c_g_table c_g_rowNames c_g_columnNames c_g_rows c_g_columns c_g_scale) := xCt_of (by decide) rfl (Nat.le_of_ble_eq_true rfl) (fun _ hX => T9_count hX hf)
theorem m9_count : xMd yX9_count RX9 ((some .int)) j9_count 1 := ⟨List.mem_of_getElem? (i := 1296) (by decide +kernel), List.mem_of_getElem? (i := 2) (by decide +kernel), rfl, by decide +kernel⟩
theorem v9_count : xMv yX9_count RX9 := ⟨List.mem_of_getElem? (i := 1294) (by decide +kernel), List.mem_of_getElem? (i := 1295) (by decide +kernel)⟩
