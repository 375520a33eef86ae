/-! ===== split where it throws ===== -/
/-- the exception's words that aren't among the good ones -/
def xYl : List Cond := xAtW.filter (fun w => !goodWord w)
def xY (U : State) : Prop := ∀ w ∈ xYl, w.before #[] U = true
def xYk (w : Cond) : Bool := match w with
  | .superclass _ _ => true
  | .declares _ => true
  | .castable _ _ => true
  | _ => false
theorem xYl_k : xYl.all xYk = true := by decide +kernel
theorem xSuper {cls sup : String} {u U : State} {A A' : Array Value} (hal : u.vm.Alike U.vm) (h : (Cond.superclass cls sup).before A u = true) : (Cond.superclass cls sup).before A' U = true := by
  cases hc : u.vm.findClass cls with
  | none => simp [Cond.before, Cond.holds, Cond.value, hc] at h
  | some c =>
    obtain ⟨p, k, kp, h1, h2, h3, h4, h5, h6, h7⟩ := Cond.superclass_spec hc h
    obtain ⟨k', hk', he⟩ := hal.2.2 _ _ h2
    obtain ⟨kp', hkp', hep⟩ := hal.2.2 _ _ h3
    have g4 : k'.super = some p := by rw [he]; exact h4
    have g5 : k'.kind = .ordinary := by rw [he]; exact h5
    have g6 : kp'.kind = .ordinary := by rw [hep]; exact h6
    have g7 : k'.isInterface = false := by rw [he]; exact h7
    simp only [Cond.before, Cond.holds, Cond.value]
    rw [hal.findClass, hal.findClass, hc, h1]
    simp [hk', hkp', g4, g5, g6, g7]
theorem xY.moved {u U : State} (hal : u.vm.Alike U.vm) (h : xY u) : xY U := by
  intro w hw
  have h1 := h w hw
  have h2 := List.all_eq_true.mp xYl_k w hw
  cases w with
  | superclass cls sup => exact xSuper hal h1
  | declares x => exact va_tabs rfl (rfl : (u.setVm U.vm).vm = U.vm) (by rw [Cond.declares_setVm hal]; exact h1)
  | castable a b => exact va_tabs rfl (rfl : (u.setVm U.vm).vm = U.vm) (by rw [Cond.castable_setVm hal]; exact h1)
  | _ => cases h2
theorem xY.use {s : State} {args : Array Value} (h : xY s) (hg : ∀ w ∈ wsL_law0, w.before args s = true) : ∀ w ∈ xAtW, w.before args s = true := by
  intro w hw
  by_cases hgw : goodWord w = true
  · exact hg w (List.mem_append_right _ (List.mem_filter.mpr ⟨hw, hgw⟩))
  · have hm : w ∈ xYl := List.mem_filter.mpr ⟨hw, by simp [hgw]⟩
    have h2 := List.all_eq_true.mp xYl_k w hm
    have h1 := h w hm
    cases w with
    | superclass cls sup => exact va_tabs rfl rfl h1
    | declares x => exact va_tabs rfl rfl h1
    | castable a b => exact va_tabs rfl rfl h1
    | _ => cases h2
abbrev j9_splitT : xJ := (cX9_split, 3, RX9, 8, 1, 6)
theorem m9_splitT : xMd yX9_split RX9 (some .int) j9_splitT 2 := ⟨m9_split.1, m9_split.2.1, rfl, m9_split.2.2.2⟩
/-- a contract of a method that throws E and changes nothing -/
def xCtT (l : Launch) (y : MethodName) (ret : Option FieldType) (J : xJ) (av : List Value) (h : xHp) (E : String) : Prop :=
  ∀ (dC : Nat → ClassId) (dI : Nat → Nat → Nat) (aC : Nat → ClassId) (r : Nat → Nat) (sz : Nat),
    vx_Met l y (Cond.code y J.1 J.2.1 ret :: wsL_law0) (xR J.2.2.2.1 J.2.2.2.2.1 J.2.2.2.2.2)
      (va_Pc (av.map (xv r)) (fun U => U.heap.size = sz ∧ va_P (dC, dI) vwCl (xH aC r h) U.heap ∧ xKK dC dI aC (va_A (xH aC r h) sz) U U.heap ∧ va_D (fun _ => True) (xH aC r h) ∧ xY U))
      (fun _ _ _ _ => False) (fun E' st t => E' = E ∧ va_P (dC, dI) vwCl (xH aC r h) t.heap ∧ va_F (va_A (xH aC r h) sz) st t) J.2.2.2.2.1 J.2.2.2.2.2 (va_A (xH aC r h) sz)
set_option maxRecDepth 100000 in
theorem C9_splitT (l : Launch) (htr : l.stackTraces = false) {x1 x2 : Int32} {c_chance : Int32} {c_n_fields : Int32} {c_n_ties : Int32} {c_n_worth : (Nat → Int32)} {c_n_forces : (Nat → Int32)} {c_n_many : (Nat → Int32)} {c_n_codes : (Nat → Nat → Int32)} {c_n_b_list : (Nat → Nat → Int32)} {c_n_b_many : (Nat → Int32)} {c_n_p_list : (Nat → Nat → Int32)} {c_n_p_weights : (Nat → Nat → Int32)} {c_n_p_drawn : (Nat → Nat → Int32)} {c_n_p_many : (Nat → Int32)} {c_n_p_all : (Nat → Int32)} {c_n_p_turns : (Nat → Int32)} {c_l_fault : Int32} {c_l_t_bytes : (Nat → Int32)} {c_l_t_many : Int32} {c_l_t_kind : Int32} {c_l_t_from : Int32} {c_l_t_behind : Int32} {c_l_t_end : Int32} {c_l_s_fields : Int32} {c_l_s_ties : Int32} {c_l_s_worth : (Nat → Int32)} {c_l_s_forces : (Nat → Int32)} {c_l_s_many : (Nat → Int32)} {c_l_s_codes : (Nat → Nat → Int32)} {c_l_s_b_list : (Nat → Nat → Int32)} {c_l_s_b_many : (Nat → Int32)} {c_l_s_p_list : (Nat → Nat → Int32)} {c_l_s_p_weights : (Nat → Nat → Int32)} {c_l_s_p_drawn : (Nat → Nat → Int32)} {c_l_s_p_many : (Nat → Int32)} {c_l_s_p_all : (Nat → Int32)} {c_l_s_p_turns : (Nat → Int32)} {c_nt_seen : (Nat → Nat → Int32)} {c_nt_many : (Nat → Int32)} {c_v_kept : (Nat → Nat → Int32)} {c_v_many : (Nat → Int32)} {c_v_turns : Int32} {c_v_stale : Int32} {c_v_goes : (Nat → Nat → Int32)} {c_v_row : (Nat → Int32)} {c_w_all : Int32} {c_w_mass : (Nat → Nat → Int32)} {c_g_picks : (Nat → Nat → Int32)} {c_g_many : (Nat → Int32)} {c_g_table : (Nat → Nat → Int64)} {c_g_rowNames : (Nat → Int32)} {c_g_columnNames : (Nat → Int32)} {c_g_rows : Int32} {c_g_columns : Int32} {c_g_scale : Int64} (hf : F4_isSplit x1 x2 c_n_many = some 0) : xCtT l yX9_split (some .int) j9_splitT [.ref 0, .int x1, .int x2] (hXx c_chance c_n_fields c_n_ties c_n_worth c_n_forces c_n_many c_n_codes c_n_b_list c_n_b_many c_n_p_list c_n_p_weights c_n_p_drawn c_n_p_many c_n_p_all c_n_p_turns c_l_fault c_l_t_bytes c_l_t_many c_l_t_kind c_l_t_from c_l_t_behind c_l_t_end c_l_s_fields c_l_s_ties c_l_s_worth c_l_s_forces c_l_s_many c_l_s_codes c_l_s_b_list c_l_s_b_many c_l_s_p_list c_l_s_p_weights c_l_s_p_drawn c_l_s_p_many c_l_s_p_all c_l_s_p_turns c_nt_seen c_nt_many c_v_kept c_v_many c_v_turns c_v_stale c_v_goes c_v_row c_w_all c_w_mass c_g_picks c_g_many c_g_table c_g_rowNames c_g_columnNames c_g_rows c_g_columns c_g_scale) "java/util/NoSuchElementException" := by
  intro dC dI aC r sz
  refine vx_ofW (cc := cX9_split) (maxL := 3) (ret := some .int) (by decide) rfl ?_
  intro p e s m args below meth c s₁ B hml htab hv
  obtain ⟨rfl, hsz, hP, hK, hD0, hY⟩ := hv
  have hts := atoms_spec (ws := Cond.code yX9_split cX9_split 3 (some .int) :: wsL_law0) B.pre
  have hown : s.vm.findClass yX9_split.cls = some m.cls := findClass_of_methodNamed B.named
  subst hsz
  have hD := hD0.self (sz := s.heap.size)
  have hl := lv_entry ([Value.ref 0, .int x1, .int x2].map (xv r)) (n := 3) (by rw [xSl]; exact Nat.le_of_ble_eq_true rfl)
  rw [xArgs] at hl
  rw [lg_entry_eq]
  generalize hA0 : va_A (xH aC r (hXx c_chance c_n_fields c_n_ties c_n_worth c_n_forces c_n_many c_n_codes c_n_b_list c_n_b_many c_n_p_list c_n_p_weights c_n_p_drawn c_n_p_many c_n_p_all c_n_p_turns c_l_fault c_l_t_bytes c_l_t_many c_l_t_kind c_l_t_from c_l_t_behind c_l_t_end c_l_s_fields c_l_s_ties c_l_s_worth c_l_s_forces c_l_s_many c_l_s_codes c_l_s_b_list c_l_s_b_many c_l_s_p_list c_l_s_p_weights c_l_s_p_drawn c_l_s_p_many c_l_s_p_all c_l_s_p_turns c_nt_seen c_nt_many c_v_kept c_v_many c_v_turns c_v_stale c_v_goes c_v_row c_w_all c_w_mass c_g_picks c_g_many c_g_table c_g_rowNames c_g_columnNames c_g_rows c_g_columns c_g_scale)) s.heap.size = A at hK hD ⊢
  have hAs : ∀ q : Nat, s.heap.size ≤ q → A q := fun q hq => by rw [← hA0]; exact Or.inr hq
  suffices K : xV j9_splitT ((p, l, e, s, m), (([Value.ref 0, .int x1, .int x2].map (xv r)).toArray, below, meth, c), (dC, dI, aC), r, A, vx_MQ below (fun _ _ _ _ => False) (fun E' st t => E' = "java/util/NoSuchElementException" ∧ va_P (dC, dI) vwCl (xH aC r (hXx c_chance c_n_fields c_n_ties c_n_worth c_n_forces c_n_many c_n_codes c_n_b_list c_n_b_many c_n_p_list c_n_p_weights c_n_p_drawn c_n_p_many c_n_p_all c_n_p_turns c_l_fault c_l_t_bytes c_l_t_many c_l_t_kind c_l_t_from c_l_t_behind c_l_t_end c_l_s_fields c_l_s_ties c_l_s_worth c_l_s_forces c_l_s_many c_l_s_codes c_l_s_b_list c_l_s_b_many c_l_s_p_list c_l_s_p_weights c_l_s_p_drawn c_l_s_p_many c_l_s_p_all c_l_s_p_turns c_nt_seen c_nt_many c_v_kept c_v_many c_v_turns c_v_stale c_v_goes c_v_row c_w_all c_w_mass c_g_picks c_g_many c_g_table c_g_rowNames c_g_columnNames c_g_rows c_g_columns c_g_scale)) t.heap ∧ va_F A st t) ([Value.ref 0, .int x1, .int x2].map (xv r)).toArray s 1 6 A) 0 0 (hXx c_chance c_n_fields c_n_ties c_n_worth c_n_forces c_n_many c_n_codes c_n_b_list c_n_b_many c_n_p_list c_n_p_weights c_n_p_drawn c_n_p_many c_n_p_all c_n_p_turns c_l_fault c_l_t_bytes c_l_t_many c_l_t_kind c_l_t_from c_l_t_behind c_l_t_end c_l_s_fields c_l_s_ties c_l_s_worth c_l_s_forces c_l_s_many c_l_s_codes c_l_s_b_list c_l_s_b_many c_l_s_p_list c_l_s_p_weights c_l_s_p_drawn c_l_s_p_many c_l_s_p_all c_l_s_p_turns c_nt_seen c_nt_many c_v_kept c_v_many c_v_turns c_v_stale c_v_goes c_v_row c_w_all c_w_mass c_g_picks c_g_many c_g_table c_g_rowNames c_g_columnNames c_g_rows c_g_columns c_g_scale) 0 [(0, .ref 0), (1, .int x1), (2, .int x2)] [] by
    exact K ⟨B.exec, B.bytes, hml, hown, fun w hw => hts w (List.mem_cons_of_mem _ hw)⟩ hK hAs s.heap [] _ hP hD va_S.rf hl
  refine xV_aload_n 1 rfl dX9_split_0 rfl 0 rfl ?_
  refine xV_get (v := .ref 1) 4 rfl dX9_split_1 f9_12 rfl rfl ?_
  refine xV_iload_n 5 rfl dX9_split_4 rfl 1 rfl ?_
  refine xV_iload_n 6 rfl dX9_split_5 rfl 2 rfl ?_
  refine xV_vir2 (g := (fun j => 1 + j)) (hl := (hS c_n_fields c_n_ties c_n_worth c_n_forces c_n_many c_n_codes c_n_b_list c_n_b_many c_n_p_list c_n_p_weights c_n_p_drawn c_n_p_many c_n_p_all c_n_p_turns)) (hl' := (hS c_n_fields c_n_ties c_n_worth c_n_forces c_n_many c_n_codes c_n_b_list c_n_b_many c_n_p_list c_n_p_weights c_n_p_drawn c_n_p_many c_n_p_all c_n_p_turns)) (h' := (hXx c_chance c_n_fields c_n_ties c_n_worth c_n_forces c_n_many c_n_codes c_n_b_list c_n_b_many c_n_p_list c_n_p_weights c_n_p_drawn c_n_p_many c_n_p_all c_n_p_turns c_l_fault c_l_t_bytes c_l_t_many c_l_t_kind c_l_t_from c_l_t_behind c_l_t_end c_l_s_fields c_l_s_ties c_l_s_worth c_l_s_forces c_l_s_many c_l_s_codes c_l_s_b_list c_l_s_b_many c_l_s_p_list c_l_s_p_weights c_l_s_p_drawn c_l_s_p_many c_l_s_p_all c_l_s_p_turns c_nt_seen c_nt_many c_v_kept c_v_many c_v_turns c_v_stale c_v_goes c_v_row c_w_all c_w_mass c_g_picks c_g_many c_g_table c_g_rowNames c_g_columnNames c_g_rows c_g_columns c_g_scale)) (rest := []) (ci := 4) 9 rfl dX9_split_6 rfl (C4_isSplit l hf) m4_isSplit v4_isSplit k9_125 rfl rfl rfl (e_Xx_S_L1) rfl (Nat.le_of_ble_eq_true rfl) (Nat.le_of_ble_eq_true rfl) (Nat.le_of_ble_eq_true rfl) ⟨Nat.zero_le _, Nat.zero_le _⟩ ?_
  refine xV_if_ne (tgt := 22) 12 rfl dX9_split_9 (by decide) (fun h9 => absurd rfl h9) (fun h9 => ?_)
  intro S hK hA H locs ls hP hD hS hl
  obtain ⟨⟨adK, adV, hvS, hvR⟩, -, -, hU, hN, -⟩ := hK.2.2
  refine xThrowX S.1 S.2.1 htr (own := RX9) (cls := "java/util/NoSuchElementException") (up := "java/lang/RuntimeException") (r := ["java/lang/Exception"]) (ik := 129) (is := 131) (ic := 133) (ix := 13) (rx := prog_26_method_4_code) (sa := adK 6) (A := A) (by decide +kernel) (by decide +kernel) (by decide +kernel) (by decide +kernel) S.2.2.2.1 (by decide +kernel) (by decide +kernel) (by decide +kernel) (S.2.2.2.2 _ (List.mem_of_getElem? (i := 572) (by decide +kernel))) (S.2.2.2.2 _ (List.mem_of_getElem? (i := 573) (by decide +kernel))) (hvR 6 (by decide)) (hY.use S.2.2.2.2) (by decide +kernel) hU hN hS (hl.1.trans S.2.2.1.symm) dX9_split_12 dX9_split_15 dX9_split_16 dX9_split_18 dX9_split_21 (fun x hx => (htab x hx).elim) (by decide) ?_ (Nat.le_refl _) (Nat.le_refl _) B.notSynchronized (fun t hal hle hsame => ⟨rfl, ?_, ?_⟩) hS.2.2 (Nat.le_refl _) (Nat.le_refl _)
  · show 0 + (13 * (1 + 2) + 43) ≤ 41 * 8 + 32
    omega
  · intro k q hq
    exact (hP k q hq).kept (hsame _ (hP k q hq).lt)
  · refine ⟨Nat.le_trans hS.1 hle, fun q h1 h2 => ?_⟩
    rw [hsame q (Nat.lt_of_lt_of_le h1 hS.1)]
    exact hS.2.1 q h1 h2
theorem dL_split_0 : decode cL_split 0 = .ok (.aload_n 3, 1) := by decide +kernel
theorem dL_split_1 : decode cL_split 1 = .ok (.iconst 0, 1) := by decide +kernel
theorem dL_split_2 : decode cL_split 2 = .ok (.aload_n 0, 1) := by decide +kernel
theorem dL_split_3 : decode cL_split 3 = .ok (.iload_n 1, 1) := by decide +kernel
theorem dL_split_4 : decode cL_split 4 = .ok (.iload_n 2, 1) := by decide +kernel
theorem dL_split_5 : decode cL_split 5 = .ok (.invokevirtual 7, 3) := by decide +kernel
theorem dL_split_8 : decode cL_split 8 = .ok (.i2l, 1) := by decide +kernel
theorem dL_split_9 : decode cL_split 9 = .ok (.lastore, 1) := by decide +kernel
theorem dL_split_10 : decode cL_split 10 = .ok (.goto 7, 3) := by decide +kernel
theorem dL_split_13 : decode cL_split 13 = .ok (.astore 4, 2) := by decide +kernel
theorem dL_split_15 : decode cL_split 15 = .ok (.iconst 1, 1) := by decide +kernel
theorem dL_split_16 : decode cL_split 16 = .ok (.ireturn, 1) := by decide +kernel
theorem dL_split_17 : decode cL_split 17 = .ok (.iconst 0, 1) := by decide +kernel
theorem dL_split_18 : decode cL_split 18 = .ok (.ireturn, 1) := by decide +kernel
