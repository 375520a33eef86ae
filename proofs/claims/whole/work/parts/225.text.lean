/-! ===== a method behind which the cells lie in another order ===== -/
def xQP (dC : Nat → ClassId) (dI : Nat → Nat → Nat) (aC : Nat → ClassId) (r : Nat → Nat) (rv : Option Value) (h' : xHp) (A : Nat → Prop) : Array Value → State → Outcome → State → Prop := fun _ st oc t =>
  (∃ r2 : Nat → Nat, r2 0 = r 0 ∧ oc = .returned (rv.map (xv r2)) ∧ va_P (dC, dI) vwCl (xH aC r2 h') t.heap ∧ va_D A (xH aC r2 h')) ∧ va_F A st t
def xIsP (J : xJ) (X : xX) (ret : Option FieldType) (rv : Option Value) (h' : xHp) : Prop := match X with
  | ((p, l, e, s, m), (args, below, meth, c), (dC, dI, aC), r, A, Q) => ∃ r0 : Nat → Nat, r 0 = r0 0 ∧ Q = MQ below (xQP dC dI aC r0 rv h' A) args s J.2.2.2.2.1 J.2.2.2.2.2 A ∧ meth.sig.returnType = ret ∧ meth.locks = false
theorem xIsP_perm {J : xJ} {X : xX} {ret : Option FieldType} {rv : Option Value} {h' : xHp} {g : Nat → Nat} (hg : g 0 = 0) (hX : xIsP J X ret rv h') : xIsP J (xsetr X (fun j => X.2.2.2.1 (g j))) ret rv h' := by
  obtain ⟨⟨p, l, e, s, m⟩, ⟨args, below, meth, c⟩, ⟨dC, dI, aC⟩, r, A, Q⟩ := X
  obtain ⟨r0, h0, h1⟩ := hX
  exact ⟨r0, by show r (g 0) = r0 0; rw [hg]; exact h0, h1⟩
def xCtP (l : Launch) (y : MethodName) (ret : Option FieldType) (J : xJ) (av : List Value) (h : xHp) (rv : Option Value) (h' : xHp) : Prop :=
  ∀ (dC : Nat → ClassId) (dI : Nat → Nat → Nat) (aC : Nat → ClassId) (r : Nat → Nat) (sz : Nat),
    Met l y (Cond.code y J.1 J.2.1 ret :: wsL_law0) (xR J.2.2.2.1 J.2.2.2.2.1 J.2.2.2.2.2)
      (va_Pc (av.map (xv r)) (fun U => U.heap.size = sz ∧ va_P (dC, dI) vwCl (xH aC r h) U.heap ∧ xKK dC dI aC (va_A (xH aC r h) sz) U U.heap ∧ va_D (fun _ => True) (xH aC r h)))
      (xQP dC dI aC r rv h' (va_A (xH aC r h) sz)) J.2.2.2.2.1 J.2.2.2.2.2 (va_A (xH aC r h) sz)
theorem xCtP_of {l : Launch} {y : MethodName} {ret : Option FieldType} {J : xJ} {av : List Value} {h : xHp} {rv : Option Value} {h' : xHp} (hy : plainName y.cls = true) (hc : y.cls = J.2.2.1) (hn : (lg_sl av).length ≤ J.2.1)
    (body : ∀ X : xX, xIsP J X ret rv h' → xV J X 0 0 h 0 (lv_args 0 av) []) : xCtP l y ret J av h rv h' := by
  intro dC dI aC r sz
  refine Met.ofW (cc := J.1) (maxL := J.2.1) (ret := ret) hy rfl ?_
  intro p e s m args below meth c s₁ B hml hv
  obtain ⟨rfl, hsz, hP, hK, hD0⟩ := hv
  have hts := atoms_spec (ws := Cond.code y J.1 J.2.1 ret :: wsL_law0) B.pre
  have hown : s.vm.findClass y.cls = some m.cls := findClass_of_methodNamed B.named
  subst hsz
  have hD := hD0.self (sz := s.heap.size)
  have hl := lv_entry (av.map (xv r)) (n := J.2.1) (by rw [xSl]; exact hn)
  rw [xArgs] at hl
  rw [lg_entry_eq]
  refine body ((p, l, e, s, m), ((av.map (xv r)).toArray, below, meth, c), (dC, dI, aC), r, va_A (xH aC r h) s.heap.size, MQ below (xQP dC dI aC r rv h' (va_A (xH aC r h) s.heap.size)) (av.map (xv r)).toArray s J.2.2.2.2.1 J.2.2.2.2.2 (va_A (xH aC r h) s.heap.size)) ⟨r, rfl, rfl, B.returns, B.notSynchronized⟩ ⟨B.exec, B.bytes, hml, hc ▸ hown, fun w hw => hts w (List.mem_cons_of_mem _ hw)⟩ hK (fun q hq => Or.inr hq) s.heap [] _ hP hD va_S.rf hl
section XPM
variable {J : xJ} {X : xX} {n k : Nat} {h : xHp} {pc : Nat} {L : List (Nat × Value)} {st : List Value}
theorem xV_iretP {v : Int32} {ty : FieldType} (hX : xIsP J X (some ty) (some (.int v)) h) (hd : decode J.1 pc = .ok (.ireturn, 1)) (hv : narrow ty (.int v) = .int v) (hn : n ≤ J.2.2.2.2.1) (hk : k ≤ J.2.2.2.2.2) : xV J X n k h pc L [.int v] := by
  obtain ⟨⟨p, l, e, s, m⟩, ⟨args, below, meth, c⟩, ⟨dC, dI, aC⟩, r, A, Q⟩ := X
  obtain ⟨r0, h0, rfl, hr, hlocks⟩ := hX
  intro S hK hA H locs ls hP hD hS hl
  refine W.widen hn hk ?_
  exact W.zret S.1 S.2.1 hr hv (fun t ht hW => ⟨⟨r, h0, rfl, by rw [ht]; exact hP, hD⟩, hS.F ht⟩) hS.2.2 hd
/-- the cells in another order -/
theorem xV_perm {h2 : xHp} {L2 : List (Nat × Value)} {st2 : List Value} (g : Nat → Nat) (hs : xSub g h2 h) (hL : xL g L2 = L) (hst : st2.map (xv g) = st) (kk : xV J (xsetr X (fun j => X.2.2.2.1 (g j))) n k h2 pc L2 st2) : xV J X n k h pc L st := by
  obtain ⟨⟨p, l, e, s, m⟩, ⟨args, below, meth, c⟩, ⟨dC, dI, aC⟩, r, A, Q⟩ := X
  intro S hK hA H locs ls hP hD hS hl
  subst hL
  subst hst
  obtain ⟨hPc, hDc⟩ := xCut hP hD hs
  have e1 : xL r (xL g L2) = xL (fun j => r (g j)) L2 := by
    unfold xL
    rw [List.map_map]
    apply List.map_congr_left
    intro q _
    show (q.1, xv r (xv g q.2)) = _
    rw [xv_xv]
  have e2 : (st2.map (xv g)).map (xv r) = st2.map (xv (fun j => r (g j))) := by
    rw [List.map_map]
    exact List.map_congr_left (fun v _ => xv_xv r g v)
  rw [e1] at hl
  rw [e2]
  exact kk S hK hA H locs ls hPc hDc hS hl
end XPM
theorem xs2_ne {h : xHp} {c0 c2 c : xE} {k : Nat} (h0 : 0 ≠ k) (h2 : 22 ≠ k) (e : h[k]? = some c) : (List.set (List.set h 0 c0) 22 c2)[k]? = some c := by
  rw [List.getElem?_set_ne h2, List.getElem?_set_ne h0]; exact e
theorem xs2_0 {h : xHp} {c0 c2 : xE} (hl : 0 < h.length) : (List.set (List.set h 0 c0) 22 c2)[0]? = some c0 := by
  rw [List.getElem?_set_ne (by decide), List.getElem?_set_self hl]
theorem xs2_22 {h : xHp} {c0 c2 : xE} (hl : 22 < h.length) : (List.set (List.set h 0 c0) 22 c2)[22]? = some c2 := by
  rw [List.getElem?_set_self (by rw [List.length_set]; exact hl)]
def xSwp (j : Nat) : Nat := ([0, 25, 26, 27, 28, 29, 30, 31, 32, 33, 34, 35, 36, 37, 38, 39, 40, 41, 42, 43, 44, 45, 22, 23, 24, 1, 2, 3, 4, 5, 6, 7, 8, 9, 10, 11, 12, 13, 14, 15, 16, 17, 18, 19, 20, 21, 46, 47, 48, 49, 50, 51, 52, 53, 54, 55, 56, 57, 58, 59, 60, 61, 62, 63, 64, 65, 66, 67, 68, 69, 70, 71, 72, 73, 74, 75, 76, 77, 78, 79, 80] : List Nat).getD j j
set_option maxRecDepth 100000 in
theorem xSwap {c_chance : Int32} {c_n_fields : Int32} {c_n_ties : Int32} {c_n_worth : (Nat → Int32)} {c_n_forces : (Nat → Int32)} {c_n_many : (Nat → Int32)} {c_n_codes : (Nat → Nat → Int32)} {c_n_b_list : (Nat → Nat → Int32)} {c_n_b_many : (Nat → Int32)} {c_n_p_list : (Nat → Nat → Int32)} {c_n_p_weights : (Nat → Nat → Int32)} {c_n_p_drawn : (Nat → Nat → Int32)} {c_n_p_many : (Nat → Int32)} {c_n_p_all : (Nat → Int32)} {c_n_p_turns : (Nat → Int32)} {c_l_fault : Int32} {c_l_t_bytes : (Nat → Int32)} {c_l_t_many : Int32} {c_l_t_kind : Int32} {c_l_t_from : Int32} {c_l_t_behind : Int32} {c_l_t_end : Int32} {c_l_s_fields : Int32} {c_l_s_ties : Int32} {c_l_s_worth : (Nat → Int32)} {c_l_s_forces : (Nat → Int32)} {c_l_s_many : (Nat → Int32)} {c_l_s_codes : (Nat → Nat → Int32)} {c_l_s_b_list : (Nat → Nat → Int32)} {c_l_s_b_many : (Nat → Int32)} {c_l_s_p_list : (Nat → Nat → Int32)} {c_l_s_p_weights : (Nat → Nat → Int32)} {c_l_s_p_drawn : (Nat → Nat → Int32)} {c_l_s_p_many : (Nat → Int32)} {c_l_s_p_all : (Nat → Int32)} {c_l_s_p_turns : (Nat → Int32)} {c_nt_seen : (Nat → Nat → Int32)} {c_nt_many : (Nat → Int32)} {c_v_kept : (Nat → Nat → Int32)} {c_v_many : (Nat → Int32)} {c_v_turns : Int32} {c_v_stale : Int32} {c_v_goes : (Nat → Nat → Int32)} {c_v_row : (Nat → Int32)} {c_w_all : Int32} {c_w_mass : (Nat → Nat → Int32)} {c_g_picks : (Nat → Nat → Int32)} {c_g_many : (Nat → Int32)} {c_g_table : (Nat → Nat → Int64)} {c_g_rowNames : (Nat → Int32)} {c_g_columnNames : (Nat → Int32)} {c_g_rows : Int32} {c_g_columns : Int32} {c_g_scale : Int64} : xSub xSwp (hXx c_chance c_l_s_fields c_l_s_ties c_l_s_worth c_l_s_forces c_l_s_many c_l_s_codes c_l_s_b_list c_l_s_b_many c_l_s_p_list c_l_s_p_weights c_l_s_p_drawn c_l_s_p_many c_l_s_p_all c_l_s_p_turns c_l_fault c_l_t_bytes c_l_t_many c_l_t_kind c_l_t_from c_l_t_behind c_l_t_end c_n_fields c_n_ties c_n_worth c_n_forces c_n_many c_n_codes c_n_b_list c_n_b_many c_n_p_list c_n_p_weights c_n_p_drawn c_n_p_many c_n_p_all c_n_p_turns c_nt_seen c_nt_many c_v_kept c_v_many c_v_turns c_v_stale c_v_goes c_v_row c_w_all c_w_mass c_g_picks c_g_many c_g_table c_g_rowNames c_g_columnNames c_g_rows c_g_columns c_g_scale) (List.set (List.set (hXx c_chance c_n_fields c_n_ties c_n_worth c_n_forces c_n_many c_n_codes c_n_b_list c_n_b_many c_n_p_list c_n_p_weights c_n_p_drawn c_n_p_many c_n_p_all c_n_p_turns c_l_fault c_l_t_bytes c_l_t_many c_l_t_kind c_l_t_from c_l_t_behind c_l_t_end c_l_s_fields c_l_s_ties c_l_s_worth c_l_s_forces c_l_s_many c_l_s_codes c_l_s_b_list c_l_s_b_many c_l_s_p_list c_l_s_p_weights c_l_s_p_drawn c_l_s_p_many c_l_s_p_all c_l_s_p_turns c_nt_seen c_nt_many c_v_kept c_v_many c_v_turns c_v_stale c_v_goes c_v_row c_w_all c_w_mass c_g_picks c_g_many c_g_table c_g_rowNames c_g_columnNames c_g_rows c_g_columns c_g_scale) 0 (.inr (9, [.ref 25, .ref 22, .ref 23, .ref 46, .ref 51, .ref 60, .ref 66, .int c_chance]))) 22 (.inr (8, [.ref 23, .ref 1, .int c_l_fault]))) := xSub_of (by show xNd _ 81 = true; decide +kernel) (And.intro (xs2_0 (Nat.le_of_ble_eq_true rfl)) (And.intro (xs2_ne (by decide) (by decide) hXx_25) (And.intro (xs2_ne (by decide) (by decide) hXx_26) (And.intro (xs2_ne (by decide) (by decide) hXx_27) (And.intro (xs2_ne (by decide) (by decide) hXx_28) (And.intro (xs2_ne (by decide) (by decide) hXx_29) (And.intro (xs2_ne (by decide) (by decide) hXx_30) (And.intro (xs2_ne (by decide) (by decide) hXx_31) (And.intro (xs2_ne (by decide) (by decide) hXx_32) (And.intro (xs2_ne (by decide) (by decide) hXx_33) (And.intro (xs2_ne (by decide) (by decide) hXx_34) (And.intro (xs2_ne (by decide) (by decide) hXx_35) (And.intro (xs2_ne (by decide) (by decide) hXx_36) (And.intro (xs2_ne (by decide) (by decide) hXx_37) (And.intro (xs2_ne (by decide) (by decide) hXx_38) (And.intro (xs2_ne (by decide) (by decide) hXx_39) (And.intro (xs2_ne (by decide) (by decide) hXx_40) (And.intro (xs2_ne (by decide) (by decide) hXx_41) (And.intro (xs2_ne (by decide) (by decide) hXx_42) (And.intro (xs2_ne (by decide) (by decide) hXx_43) (And.intro (xs2_ne (by decide) (by decide) hXx_44) (And.intro (xs2_ne (by decide) (by decide) hXx_45) (And.intro (xs2_22 (Nat.le_of_ble_eq_true rfl)) (And.intro (xs2_ne (by decide) (by decide) hXx_23) (And.intro (xs2_ne (by decide) (by decide) hXx_24) (And.intro (xs2_ne (by decide) (by decide) hXx_1) (And.intro (xs2_ne (by decide) (by decide) hXx_2) (And.intro (xs2_ne (by decide) (by decide) hXx_3) (And.intro (xs2_ne (by decide) (by decide) hXx_4) (And.intro (xs2_ne (by decide) (by decide) hXx_5) (And.intro (xs2_ne (by decide) (by decide) hXx_6) (And.intro (xs2_ne (by decide) (by decide) hXx_7) (And.intro (xs2_ne (by decide) (by decide) hXx_8) (And.intro (xs2_ne (by decide) (by decide) hXx_9) (And.intro (xs2_ne (by decide) (by decide) hXx_10) (And.intro (xs2_ne (by decide) (by decide) hXx_11) (And.intro (xs2_ne (by decide) (by decide) hXx_12) (And.intro (xs2_ne (by decide) (by decide) hXx_13) (And.intro (xs2_ne (by decide) (by decide) hXx_14) (And.intro (xs2_ne (by decide) (by decide) hXx_15) (And.intro (xs2_ne (by decide) (by decide) hXx_16) (And.intro (xs2_ne (by decide) (by decide) hXx_17) (And.intro (xs2_ne (by decide) (by decide) hXx_18) (And.intro (xs2_ne (by decide) (by decide) hXx_19) (And.intro (xs2_ne (by decide) (by decide) hXx_20) (And.intro (xs2_ne (by decide) (by decide) hXx_21) (And.intro (xs2_ne (by decide) (by decide) hXx_46) (And.intro (xs2_ne (by decide) (by decide) hXx_47) (And.intro (xs2_ne (by decide) (by decide) hXx_48) (And.intro (xs2_ne (by decide) (by decide) hXx_49) (And.intro (xs2_ne (by decide) (by decide) hXx_50) (And.intro (xs2_ne (by decide) (by decide) hXx_51) (And.intro (xs2_ne (by decide) (by decide) hXx_52) (And.intro (xs2_ne (by decide) (by decide) hXx_53) (And.intro (xs2_ne (by decide) (by decide) hXx_54) (And.intro (xs2_ne (by decide) (by decide) hXx_55) (And.intro (xs2_ne (by decide) (by decide) hXx_56) (And.intro (xs2_ne (by decide) (by decide) hXx_57) (And.intro (xs2_ne (by decide) (by decide) hXx_58) (And.intro (xs2_ne (by decide) (by decide) hXx_59) (And.intro (xs2_ne (by decide) (by decide) hXx_60) (And.intro (xs2_ne (by decide) (by decide) hXx_61) (And.intro (xs2_ne (by decide) (by decide) hXx_62) (And.intro (xs2_ne (by decide) (by decide) hXx_63) (And.intro (xs2_ne (by decide) (by decide) hXx_64) (And.intro (xs2_ne (by decide) (by decide) hXx_65) (And.intro (xs2_ne (by decide) (by decide) hXx_66) (And.intro (xs2_ne (by decide) (by decide) hXx_67) (And.intro (xs2_ne (by decide) (by decide) hXx_68) (And.intro (xs2_ne (by decide) (by decide) hXx_69) (And.intro (xs2_ne (by decide) (by decide) hXx_70) (And.intro (xs2_ne (by decide) (by decide) hXx_71) (And.intro (xs2_ne (by decide) (by decide) hXx_72) (And.intro (xs2_ne (by decide) (by decide) hXx_73) (And.intro (xs2_ne (by decide) (by decide) hXx_74) (And.intro (xs2_ne (by decide) (by decide) hXx_75) (And.intro (xs2_ne (by decide) (by decide) hXx_76) (And.intro (xs2_ne (by decide) (by decide) hXx_77) (And.intro (xs2_ne (by decide) (by decide) hXx_78) (And.intro (xs2_ne (by decide) (by decide) hXx_79) (And.intro (xs2_ne (by decide) (by decide) hXx_80) (trivial))))))))))))))))))))))))))))))))))))))))))))))))))))))))))))))))))))))))))))))))))
