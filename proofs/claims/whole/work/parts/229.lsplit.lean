/-! ===== the law's own split, which catches ===== -/
theorem xget_last {h : xHp} {c : xE} {n : Nat} (hn : h.length = n) : (h ++ [c])[n]? = some c := by
  subst hn
  rw [List.getElem?_append_right (Nat.le_refl _), Nat.sub_self]; rfl
theorem xset_last {h : xHp} {c c' : xE} {n : Nat} (hn : h.length = n) : (h ++ [c]).set n c' = h ++ [c'] := by
  subst hn
  apply List.ext_getElem?
  intro i
  rw [List.getElem?_set]
  by_cases hi : h.length = i
  · subst hi
    rw [if_pos rfl, if_pos (by rw [List.length_append]; exact Nat.lt_succ_self _), List.getElem?_append_right (Nat.le_refl _), Nat.sub_self]; rfl
  · rw [if_neg hi]
    by_cases hl : i < h.length
    · rw [List.getElem?_append_left hl, List.getElem?_append_left hl]
    · rw [List.getElem?_append_right (by omega), List.getElem?_append_right (by omega), List.getElem?_eq_none (by show 1 ≤ _; omega), List.getElem?_eq_none (by show 1 ≤ _; omega)]
def xIsX (J : xJ) (X : xX) (ret : Option FieldType) (rv : Option Value) (h' : xHp) : Prop := match X with
  | ((p, l, e, s, m), (args, below, meth, c), (dC, dI, aC), r, A, Q) => Q = vx_MQ below (xQ dC dI aC r rv h' A) (fun _ _ _ => False) args s J.2.2.2.2.1 J.2.2.2.2.2 A ∧ meth.sig.returnType = ret ∧ meth.locks = false
theorem xV_iretX {J : xJ} {X : xX} {n k : Nat} {h : xHp} {pc : Nat} {L : List (Nat × Value)} {v : Int32} {ty : FieldType} (hX : xIsX J X (some ty) (some (.int v)) h) (hd : decode J.1 pc = .ok (.ireturn, 1)) (hv : narrow ty (.int v) = .int v) (hn : n ≤ J.2.2.2.2.1) (hk : k ≤ J.2.2.2.2.2) : xV J X n k h pc L [.int v] := by
  obtain ⟨⟨p, l, e, s, m⟩, ⟨args, below, meth, c⟩, ⟨dC, dI, aC⟩, r, A, Q⟩ := X
  obtain ⟨rfl, hr, hlocks⟩ := hX
  intro S hK hA H locs ls hP hD hS hl
  refine W.widen hn hk ?_
  exact vx_ret (W.zret S.1 S.2.1 hr hv (fun t ht hW => ⟨⟨rfl, by rw [ht]; exact hP, hD⟩, hS.F ht⟩) hS.2.2 hd)
def xCtX (l : Launch) (y : MethodName) (ret : Option FieldType) (J : xJ) (hh : List (Nat × Nat × Nat × Nat)) (av : List Value) (h : xHp) (rv : Option Value) (h' : xHp) : Prop :=
  ∀ (dC : Nat → ClassId) (dI : Nat → Nat → Nat) (aC : Nat → ClassId) (r : Nat → Nat) (sz : Nat),
    vx_Met l y (Cond.codeWith y J.1 J.2.1 ret hh :: wsL_law0) (xR J.2.2.2.1 J.2.2.2.2.1 J.2.2.2.2.2)
      (va_Pc (av.map (xv r)) (fun U => U.heap.size = sz ∧ va_P (dC, dI) vwCl (xH aC r h) U.heap ∧ xKK dC dI aC (va_A (xH aC r h) sz) U U.heap ∧ va_D (fun _ => True) (xH aC r h) ∧ xY U))
      (xQ dC dI aC r rv h' (va_A (xH aC r h) sz)) (fun _ _ _ => False) J.2.2.2.2.1 J.2.2.2.2.2 (va_A (xH aC r h) sz)
def xTab (X : xX) (hh : List (Nat × Nat × Nat × Nat)) : Prop := match X with
  | ((p, l, e, s, m), (args, below, meth, c), (dC, dI, aC), r, A, Q) => c.exceptionTable.toList = tableOf hh ∧ xY s
theorem xCtX_of {l : Launch} {y : MethodName} {ret : Option FieldType} {J : xJ} {hh : List (Nat × Nat × Nat × Nat)} {av : List Value} {h : xHp} {rv : Option Value} {h' : xHp} (hy : plainName y.cls = true) (hc : y.cls = J.2.2.1) (hn : (lg_sl av).length ≤ J.2.1)
    (body : ∀ X : xX, X.1.2.1 = l → xIsX J X ret rv h' → xTab X hh → xV J X 0 0 h 0 (lv_args 0 av) []) : xCtX l y ret J hh av h rv h' := by
  intro dC dI aC r sz
  refine vx_ofWH (cc := J.1) (maxL := J.2.1) (ret := ret) hy rfl ?_
  intro p e s m args below meth c s₁ B hml hv
  obtain ⟨rfl, hsz, hP, hK, hD0, hY⟩ := hv
  have hts := atoms_spec (ws := Cond.codeWith y J.1 J.2.1 ret hh :: wsL_law0) B.pre
  have hown : s.vm.findClass y.cls = some m.cls := findClass_of_methodNamed B.named
  subst hsz
  have hD := hD0.self (sz := s.heap.size)
  have hl := lv_entry (av.map (xv r)) (n := J.2.1) (by rw [xSl]; exact hn)
  rw [xArgs] at hl
  rw [lg_entry_eq]
  refine body ((p, l, e, s, m), ((av.map (xv r)).toArray, below, meth, c), (dC, dI, aC), r, va_A (xH aC r h) s.heap.size, vx_MQ below (xQ dC dI aC r rv h' (va_A (xH aC r h) s.heap.size)) (fun _ _ _ => False) (av.map (xv r)).toArray s J.2.2.2.2.1 J.2.2.2.2.2 (va_A (xH aC r h) s.heap.size)) rfl ⟨rfl, B.returns, B.notSynchronized⟩ ⟨vx_table (x := y) B (hts _ List.mem_cons_self), hY⟩ ⟨B.exec, B.bytes, hml, hc ▸ hown, fun w hw => hts w (List.mem_cons_of_mem _ hw)⟩ hK (fun q hq => Or.inr hq) s.heap [] _ hP hD va_S.rf hl
/-- a call that throws, caught here -/
theorem xV_callT {J Jc : xJ} {X : xX} {n k : Nat} {h t : xHp} {pc : Nat} {L : List (Nat × Value)} {rest av2 : List Value} {y : MethodName} {ret : Option FieldType} {C E : String} {idx b ci : Nat} {fs : List Value} {q : vw_C} {l : Launch} {f1 f2 hpc ct : Nat} (hd : decode J.1 pc = .ok (.invokevirtual idx, 3)) (hl0 : X.1.2.1 = l) (hTab : xTab X [(f1, f2, hpc, ct)]) (hcov : covers (⟨f1, f2, hpc, ct⟩ : ExceptionTableEntry) pc = true) (hct : ct ≠ 0) (hM : xCtT l y ret Jc (.ref b :: av2) h E) (hw : xMd y C ret Jc av2.length) (hv : xMv y C) (hlk : Cond.methodLink J.2.2.1 idx y ∈ wsL_law0) (hcl : Cond.classLink J.2.2.1 ct E ∈ wsL_law0) (hcast : Cond.castable E E ∈ xYl) {st : List Value} (hst : st = av2.reverse ++ .ref b :: rest) (hcb : (h ++ t)[b]? = some (.inr (ci, fs))) (hci : vwCl[ci]? = some q) (hC : q.1 = C) (hroom : (rest.map fun v => v.category).sum ≤ 8) (hdp : Jc.2.2.2.1 + 1 ≤ J.2.2.2.1) (hml : Jc.2.1 ≤ 21) (hf : n + Jc.2.2.2.2.1 ≤ J.2.2.2.2.1 ∧ k + Jc.2.2.2.2.2 ≤ J.2.2.2.2.2) (hsc : xScH 1003 (h ++ t)) (hL : ∀ q ∈ L, xScV 1003 q.2)
    (kk : ∀ r' : Nat → Nat, (∀ j, j < 1003 → r' j = X.2.2.2.1 j) → xV J (xsetr X r') (n + Jc.2.2.2.2.1) (k + Jc.2.2.2.2.2) (h ++ t) hpc L [.ref 1003]) : xV J X n k (h ++ t) pc L st := by
  obtain ⟨⟨p, l, e, s, m⟩, ⟨args, below, meth, c⟩, ⟨dC, dI, aC⟩, r, A, Q⟩ := X
  intro S hK hA H locs ls hP hD hS hll
  subst hl0
  have e9 : xv (fun j => j) = id := funext xv_id
  have hs := xSub_pre h t
  have hb := xBack_pre (h := h) (h' := h) t rfl
  obtain ⟨hPc, hDc⟩ := xCut hP hD hs
  have hcat : ∀ l : List Value, ((l.map (xv r)).map fun v => v.category) = l.map fun v => v.category := fun l => by
    rw [List.map_map]; exact List.map_congr_left (fun v _ => xv_cat r v)
  have hgood : GoodIn wsL_law0 (wsV J.2.2.1 idx C y (Cond.code y Jc.1 Jc.2.1 ret :: wsL_law0)) := by
    intro w hw2
    rcases List.mem_append.mp hw2 with h9 | h9
    · have hm : w ∈ wsL_law0 := by
        simp only [List.mem_cons, List.not_mem_nil, or_false] at h9
        rcases h9 with rfl | rfl | rfl | rfl
        · exact hlk
        · exact hv.1
        · exact hv.2
        · exact hw.2.1
      exact ⟨hm, good_of_word (List.all_eq_true.mp xGood w hm)⟩
    · exact xGoodIn hw w h9
  have hFr := xFree (dC := dC) (dI := dI) hs hA hD hS
  have hrun : vx_Run p l e (xR J.2.2.2.1 J.2.2.2.2.1 J.2.2.2.2.2) s m args below meth c H locs n k Jc.2.2.2.2.1 Jc.2.2.2.2.2 (F0 m pc ls (st.map (xv r))) (rest.map (xv r)) ((fun (_ : Array Value) (_ : State) (_ : Outcome) (_ : State) => False) (Value.ref (r b) :: av2.map (xv r)).toArray) (fun E' st t => E' = E ∧ va_P (dC, dI) vwCl (xH aC (fun j => r j) h) t.heap ∧ va_F (va_A (xH aC (fun j => r j) h) H.size) st t) (va_A (xH aC (fun j => r j) h) H.size) := by
    refine vx_runV (As := av2.map (xv r)) (C := C) S (hM dC dI aC (fun j => r j) H.size) (cwV av2.length S.2.2.2.2 hgood rfl rfl rfl ⟨hw.2.2.1, hw.2.2.2⟩ ⟨hdp, ?_⟩) ⟨?_, ?_, fun U hU hW => ⟨rfl, by rw [hU], by rw [hU]; exact hPc, by rw [hU]; exact hK.call hS hFr hW, hDc.weaken (fun _ _ _ _ => trivial), hTab.2.moved hW.alike⟩⟩ rfl (by rw [List.length_map]) hll.1 ?_ (lv_room (by rw [hcat]; exact hroom)) hd hf
    · show 8 + (Jc.2.1 + 11) + (41 * Jc.2.2.2.1 + 32) ≤ 41 * J.2.2.2.1 + 32
      omega
    · intro a U g mk q
      obtain ⟨q0, q1, qP, qK, qD, qY⟩ := q
      exact ⟨q0, q1, qP, qK.blind rfl, qD, xY.moved (u := U) (U := U.calling g mk a) (Vm.Alike.refl _) qY⟩
    · have := va_recv hK.1 hP hci (xH_at hcb)
      rw [hC] at this
      exact this
    · show st.map (xv r) = _
      rw [hst, List.map_append, List.map_reverse]
      rfl
  intro T hT XX
  rcases hrun T hT XX with ⟨v, st₀, t1, T', L2, h0, X', hL2, e1, e2, hfalse, stp⟩ | ⟨q9, st₀, t1, T', L2, E', ce, h0, X', hL2, e1, e2, ⟨rfl, hP1, hz, hk2⟩, hce, hcv, hcl9, stp⟩
  · exact hfalse.elim
  · rw [h0] at hz hk2
    rw [← e1] at hP1 hz hk2 hce
    obtain ⟨hP2, hD2⟩ := xBehind hP hD hs hb hk2 hP1
    have hS2 : va_S A s.heap T'.heap (locs ++ L2) := ⟨Nat.le_trans hS.1 hz, fun q h1 h2 => by rw [hk2 q (Nat.lt_of_lt_of_le h1 hS.1) (fun z => h2 (hFr q z))]; exact hS.2.1 q h1 h2, fun q hq => by
        rcases List.mem_append.mp hq with h | h
        · exact hS.2.2 q h
        · exact hFr _ (hL2 q h)⟩
    obtain ⟨r', hr', h1003⟩ : ∃ r' : Nat → Nat, (∀ j, j < 1003 → r' j = r j) ∧ r' 1003 = q9 := ⟨fun j => if j = 1003 then q9 else r j, fun j hj => if_neg (by omega), if_pos rfl⟩
    have e4 := xH_cong (aC := aC) hr' hsc
    have e5 : xL r' L = xL r L := List.map_congr_left (fun q hq => by rw [xv_cong hr' (hL q hq)])
    have K := kk r' hr' S hK hA T'.heap (locs ++ L2) ls (by rw [e4]; exact hP2) (by rw [e4]; exact hD2) hS2 (by rw [e5]; exact hll)
    have e6 : [Value.ref 1003].map (xv r') = [.ref q9] := by
      show [Value.ref (r' 1003)] = _
      rw [h1003]
    rw [e6] at K
    have hc2 : (Cond.castable E' E').before args s = true := va_tabs rfl rfl (hTab.2 _ hcast)
    obtain ⟨t2, a1, b1⟩ := vx_catch (rest := rest.map (xv r)) (pc := pc) S.2.2.2.1 [] (⟨f1, f2, hpc, ct⟩ : ExceptionTableEntry) [] hTab.1 (fun z hz => by cases hz) hcov hct (S.2.2.2.2 _ hcl) hc2 hce hcv hcl9 K T' rfl X'
    exact ⟨t2, stp.trans a1, b1⟩
abbrev jL_split : xJ := (cL_split, 5, RL, 9, 1, 6)
set_option maxRecDepth 100000 in
theorem CL_splitR (l : Launch) {x1 x2 : Int32} {c_out : Nat → Int64} {c_chance : Int32} {c_n_fields : Int32} {c_n_ties : Int32} {c_n_worth : (Nat → Int32)} {c_n_forces : (Nat → Int32)} {c_n_many : (Nat → Int32)} {c_n_codes : (Nat → Nat → Int32)} {c_n_b_list : (Nat → Nat → Int32)} {c_n_b_many : (Nat → Int32)} {c_n_p_list : (Nat → Nat → Int32)} {c_n_p_weights : (Nat → Nat → Int32)} {c_n_p_drawn : (Nat → Nat → Int32)} {c_n_p_many : (Nat → Int32)} {c_n_p_all : (Nat → Int32)} {c_n_p_turns : (Nat → Int32)} {c_l_fault : Int32} {c_l_t_bytes : (Nat → Int32)} {c_l_t_many : Int32} {c_l_t_kind : Int32} {c_l_t_from : Int32} {c_l_t_behind : Int32} {c_l_t_end : Int32} {c_l_s_fields : Int32} {c_l_s_ties : Int32} {c_l_s_worth : (Nat → Int32)} {c_l_s_forces : (Nat → Int32)} {c_l_s_many : (Nat → Int32)} {c_l_s_codes : (Nat → Nat → Int32)} {c_l_s_b_list : (Nat → Nat → Int32)} {c_l_s_b_many : (Nat → Int32)} {c_l_s_p_list : (Nat → Nat → Int32)} {c_l_s_p_weights : (Nat → Nat → Int32)} {c_l_s_p_drawn : (Nat → Nat → Int32)} {c_l_s_p_many : (Nat → Int32)} {c_l_s_p_all : (Nat → Int32)} {c_l_s_p_turns : (Nat → Int32)} {c_nt_seen : (Nat → Nat → Int32)} {c_nt_many : (Nat → Int32)} {c_v_kept : (Nat → Nat → Int32)} {c_v_many : (Nat → Int32)} {c_v_turns : Int32} {c_v_stale : Int32} {c_v_goes : (Nat → Nat → Int32)} {c_v_row : (Nat → Int32)} {c_w_all : Int32} {c_w_mass : (Nat → Nat → Int32)} {c_g_picks : (Nat → Nat → Int32)} {c_g_many : (Nat → Int32)} {c_g_table : (Nat → Nat → Int64)} {c_g_rowNames : (Nat → Int32)} {c_g_columnNames : (Nat → Int32)} {c_g_rows : Int32} {c_g_columns : Int32} {c_g_scale : Int64} {v : Int32} (hf : F9_split x1 x2 c_n_many c_n_codes = some v) : xCtX l yL_split (some .int) jL_split [(0, 10, 13, 13)] [.ref 0, .int x1, .int x2, .ref 81] ((hXx c_chance c_n_fields c_n_ties c_n_worth c_n_forces c_n_many c_n_codes c_n_b_list c_n_b_many c_n_p_list c_n_p_weights c_n_p_drawn c_n_p_many c_n_p_all c_n_p_turns c_l_fault c_l_t_bytes c_l_t_many c_l_t_kind c_l_t_from c_l_t_behind c_l_t_end c_l_s_fields c_l_s_ties c_l_s_worth c_l_s_forces c_l_s_many c_l_s_codes c_l_s_b_list c_l_s_b_many c_l_s_p_list c_l_s_p_weights c_l_s_p_drawn c_l_s_p_many c_l_s_p_all c_l_s_p_turns c_nt_seen c_nt_many c_v_kept c_v_many c_v_turns c_v_stale c_v_goes c_v_row c_w_all c_w_mass c_g_picks c_g_many c_g_table c_g_rowNames c_g_columnNames c_g_rows c_g_columns c_g_scale) ++ [.inl (1, 1, .inr (.inl c_out))]) (some (.int 0)) ((hXx c_chance c_n_fields c_n_ties c_n_worth c_n_forces c_n_many c_n_codes c_n_b_list c_n_b_many c_n_p_list c_n_p_weights c_n_p_drawn c_n_p_many c_n_p_all c_n_p_turns c_l_fault c_l_t_bytes c_l_t_many c_l_t_kind c_l_t_from c_l_t_behind c_l_t_end c_l_s_fields c_l_s_ties c_l_s_worth c_l_s_forces c_l_s_many c_l_s_codes c_l_s_b_list c_l_s_b_many c_l_s_p_list c_l_s_p_weights c_l_s_p_drawn c_l_s_p_many c_l_s_p_all c_l_s_p_turns c_nt_seen c_nt_many c_v_kept c_v_many c_v_turns c_v_stale c_v_goes c_v_row c_w_all c_w_mass c_g_picks c_g_many c_g_table c_g_rowNames c_g_columnNames c_g_rows c_g_columns c_g_scale) ++ [.inl (1, 1, .inr (.inl (vp_updL c_out 0 v.toInt64)))]) := xCtX_of (by decide) rfl (Nat.le_of_ble_eq_true rfl) (fun X hl hX hTab => by
  refine xV_aload_n 1 rfl dL_split_0 rfl 3 rfl ?_
  refine xV_iconst (v := 0) 2 rfl dL_split_1 (by decide) ?_
  refine xV_aload_n 3 rfl dL_split_2 rfl 0 rfl ?_
  refine xV_iload_n 4 rfl dL_split_3 rfl 1 rfl ?_
  refine xV_iload_n 5 rfl dL_split_4 rfl 2 rfl ?_
  refine xV_pre (h := (hXx c_chance c_n_fields c_n_ties c_n_worth c_n_forces c_n_many c_n_codes c_n_b_list c_n_b_many c_n_p_list c_n_p_weights c_n_p_drawn c_n_p_many c_n_p_all c_n_p_turns c_l_fault c_l_t_bytes c_l_t_many c_l_t_kind c_l_t_from c_l_t_behind c_l_t_end c_l_s_fields c_l_s_ties c_l_s_worth c_l_s_forces c_l_s_many c_l_s_codes c_l_s_b_list c_l_s_b_many c_l_s_p_list c_l_s_p_weights c_l_s_p_drawn c_l_s_p_many c_l_s_p_all c_l_s_p_turns c_nt_seen c_nt_many c_v_kept c_v_many c_v_turns c_v_stale c_v_goes c_v_row c_w_all c_w_mass c_g_picks c_g_many c_g_table c_g_rowNames c_g_columnNames c_g_rows c_g_columns c_g_scale)) (h' := (hXx c_chance c_n_fields c_n_ties c_n_worth c_n_forces c_n_many c_n_codes c_n_b_list c_n_b_many c_n_p_list c_n_p_weights c_n_p_drawn c_n_p_many c_n_p_all c_n_p_turns c_l_fault c_l_t_bytes c_l_t_many c_l_t_kind c_l_t_from c_l_t_behind c_l_t_end c_l_s_fields c_l_s_ties c_l_s_worth c_l_s_forces c_l_s_many c_l_s_codes c_l_s_b_list c_l_s_b_many c_l_s_p_list c_l_s_p_weights c_l_s_p_drawn c_l_s_p_many c_l_s_p_all c_l_s_p_turns c_nt_seen c_nt_many c_v_kept c_v_many c_v_turns c_v_stale c_v_goes c_v_row c_w_all c_w_mass c_g_picks c_g_many c_g_table c_g_rowNames c_g_columnNames c_g_rows c_g_columns c_g_scale)) (rest := [.int 0, .ref 81]) 8 rfl dL_split_5 hl (C9_split l hf) m9_split v9_split (List.mem_of_getElem? (i := 568) (by decide +kernel)) rfl rfl rfl rfl rfl (Nat.le_of_ble_eq_true rfl) (Nat.le_of_ble_eq_true rfl) (Nat.le_of_ble_eq_true rfl) ⟨Nat.zero_le _, Nat.zero_le _⟩ ?_
  refine xV_eq (n' := 0) (k' := 0) rfl rfl ?_
  refine xV_i2l 9 rfl dL_split_8 ?_
  refine xV_lastore (f := c_out) (z := 1) (j := 0) (h' := (hXx c_chance c_n_fields c_n_ties c_n_worth c_n_forces c_n_many c_n_codes c_n_b_list c_n_b_many c_n_p_list c_n_p_weights c_n_p_drawn c_n_p_many c_n_p_all c_n_p_turns c_l_fault c_l_t_bytes c_l_t_many c_l_t_kind c_l_t_from c_l_t_behind c_l_t_end c_l_s_fields c_l_s_ties c_l_s_worth c_l_s_forces c_l_s_many c_l_s_codes c_l_s_b_list c_l_s_b_many c_l_s_p_list c_l_s_p_weights c_l_s_p_drawn c_l_s_p_many c_l_s_p_all c_l_s_p_turns c_nt_seen c_nt_many c_v_kept c_v_many c_v_turns c_v_stale c_v_goes c_v_row c_w_all c_w_mass c_g_picks c_g_many c_g_table c_g_rowNames c_g_columnNames c_g_rows c_g_columns c_g_scale) ++ [.inl (1, 1, .inr (.inl (vp_updL c_out 0 v.toInt64)))]) 10 rfl dL_split_9 (xget_last rfl) (xin_ok (by decide)) (by decide) (xset_last rfl) ?_
  refine xV_goto (tgt := 17) dL_split_10 (by decide) ?_
  refine xV_iconst (v := 0) 18 rfl dL_split_17 (by decide) ?_
  exact xV_iretX hX dL_split_18 rfl (Nat.zero_le _) (Nat.zero_le _))
set_option maxRecDepth 100000 in
theorem CL_splitT (l : Launch) (htr : l.stackTraces = false) {x1 x2 : Int32} {c_out : Nat → Int64} {c_chance : Int32} {c_n_fields : Int32} {c_n_ties : Int32} {c_n_worth : (Nat → Int32)} {c_n_forces : (Nat → Int32)} {c_n_many : (Nat → Int32)} {c_n_codes : (Nat → Nat → Int32)} {c_n_b_list : (Nat → Nat → Int32)} {c_n_b_many : (Nat → Int32)} {c_n_p_list : (Nat → Nat → Int32)} {c_n_p_weights : (Nat → Nat → Int32)} {c_n_p_drawn : (Nat → Nat → Int32)} {c_n_p_many : (Nat → Int32)} {c_n_p_all : (Nat → Int32)} {c_n_p_turns : (Nat → Int32)} {c_l_fault : Int32} {c_l_t_bytes : (Nat → Int32)} {c_l_t_many : Int32} {c_l_t_kind : Int32} {c_l_t_from : Int32} {c_l_t_behind : Int32} {c_l_t_end : Int32} {c_l_s_fields : Int32} {c_l_s_ties : Int32} {c_l_s_worth : (Nat → Int32)} {c_l_s_forces : (Nat → Int32)} {c_l_s_many : (Nat → Int32)} {c_l_s_codes : (Nat → Nat → Int32)} {c_l_s_b_list : (Nat → Nat → Int32)} {c_l_s_b_many : (Nat → Int32)} {c_l_s_p_list : (Nat → Nat → Int32)} {c_l_s_p_weights : (Nat → Nat → Int32)} {c_l_s_p_drawn : (Nat → Nat → Int32)} {c_l_s_p_many : (Nat → Int32)} {c_l_s_p_all : (Nat → Int32)} {c_l_s_p_turns : (Nat → Int32)} {c_nt_seen : (Nat → Nat → Int32)} {c_nt_many : (Nat → Int32)} {c_v_kept : (Nat → Nat → Int32)} {c_v_many : (Nat → Int32)} {c_v_turns : Int32} {c_v_stale : Int32} {c_v_goes : (Nat → Nat → Int32)} {c_v_row : (Nat → Int32)} {c_w_all : Int32} {c_w_mass : (Nat → Nat → Int32)} {c_g_picks : (Nat → Nat → Int32)} {c_g_many : (Nat → Int32)} {c_g_table : (Nat → Nat → Int64)} {c_g_rowNames : (Nat → Int32)} {c_g_columnNames : (Nat → Int32)} {c_g_rows : Int32} {c_g_columns : Int32} {c_g_scale : Int64} (hf : F4_isSplit x1 x2 c_n_many = some 0) : xCtX l yL_split (some .int) jL_split [(0, 10, 13, 13)] [.ref 0, .int x1, .int x2, .ref 81] ((hXx c_chance c_n_fields c_n_ties c_n_worth c_n_forces c_n_many c_n_codes c_n_b_list c_n_b_many c_n_p_list c_n_p_weights c_n_p_drawn c_n_p_many c_n_p_all c_n_p_turns c_l_fault c_l_t_bytes c_l_t_many c_l_t_kind c_l_t_from c_l_t_behind c_l_t_end c_l_s_fields c_l_s_ties c_l_s_worth c_l_s_forces c_l_s_many c_l_s_codes c_l_s_b_list c_l_s_b_many c_l_s_p_list c_l_s_p_weights c_l_s_p_drawn c_l_s_p_many c_l_s_p_all c_l_s_p_turns c_nt_seen c_nt_many c_v_kept c_v_many c_v_turns c_v_stale c_v_goes c_v_row c_w_all c_w_mass c_g_picks c_g_many c_g_table c_g_rowNames c_g_columnNames c_g_rows c_g_columns c_g_scale) ++ [.inl (1, 1, .inr (.inl c_out))]) (some (.int 1)) ((hXx c_chance c_n_fields c_n_ties c_n_worth c_n_forces c_n_many c_n_codes c_n_b_list c_n_b_many c_n_p_list c_n_p_weights c_n_p_drawn c_n_p_many c_n_p_all c_n_p_turns c_l_fault c_l_t_bytes c_l_t_many c_l_t_kind c_l_t_from c_l_t_behind c_l_t_end c_l_s_fields c_l_s_ties c_l_s_worth c_l_s_forces c_l_s_many c_l_s_codes c_l_s_b_list c_l_s_b_many c_l_s_p_list c_l_s_p_weights c_l_s_p_drawn c_l_s_p_many c_l_s_p_all c_l_s_p_turns c_nt_seen c_nt_many c_v_kept c_v_many c_v_turns c_v_stale c_v_goes c_v_row c_w_all c_w_mass c_g_picks c_g_many c_g_table c_g_rowNames c_g_columnNames c_g_rows c_g_columns c_g_scale) ++ [.inl (1, 1, .inr (.inl c_out))]) := xCtX_of (by decide) rfl (Nat.le_of_ble_eq_true rfl) (fun X hl hX hTab => by
  refine xV_aload_n 1 rfl dL_split_0 rfl 3 rfl ?_
  refine xV_iconst (v := 0) 2 rfl dL_split_1 (by decide) ?_
  refine xV_aload_n 3 rfl dL_split_2 rfl 0 rfl ?_
  refine xV_iload_n 4 rfl dL_split_3 rfl 1 rfl ?_
  refine xV_iload_n 5 rfl dL_split_4 rfl 2 rfl ?_
  refine xV_callT (h := (hXx c_chance c_n_fields c_n_ties c_n_worth c_n_forces c_n_many c_n_codes c_n_b_list c_n_b_many c_n_p_list c_n_p_weights c_n_p_drawn c_n_p_many c_n_p_all c_n_p_turns c_l_fault c_l_t_bytes c_l_t_many c_l_t_kind c_l_t_from c_l_t_behind c_l_t_end c_l_s_fields c_l_s_ties c_l_s_worth c_l_s_forces c_l_s_many c_l_s_codes c_l_s_b_list c_l_s_b_many c_l_s_p_list c_l_s_p_weights c_l_s_p_drawn c_l_s_p_many c_l_s_p_all c_l_s_p_turns c_nt_seen c_nt_many c_v_kept c_v_many c_v_turns c_v_stale c_v_goes c_v_row c_w_all c_w_mass c_g_picks c_g_many c_g_table c_g_rowNames c_g_columnNames c_g_rows c_g_columns c_g_scale)) (rest := [.int 0, .ref 81]) (av2 := [.int x1, .int x2]) (E := "java/util/NoSuchElementException") dL_split_5 hl hTab (by decide) (by decide) (C9_splitT l htr hf) m9_splitT v9_split (List.mem_of_getElem? (i := 568) (by decide +kernel)) (List.mem_of_getElem? (i := 567) (by decide +kernel)) (by decide +kernel) rfl rfl rfl rfl (Nat.le_of_ble_eq_true rfl) (Nat.le_of_ble_eq_true rfl) (Nat.le_of_ble_eq_true rfl) ⟨Nat.le_refl _, Nat.le_refl _⟩ (xScH_of (Nat.le_of_ble_eq_true rfl) rfl) (xScL_of rfl) (fun r' hr' => ?_)
  have hX : xIsX jL_split (xsetr X r') (some .int) (some (.int 1)) ((hXx c_chance c_n_fields c_n_ties c_n_worth c_n_forces c_n_many c_n_codes c_n_b_list c_n_b_many c_n_p_list c_n_p_weights c_n_p_drawn c_n_p_many c_n_p_all c_n_p_turns c_l_fault c_l_t_bytes c_l_t_many c_l_t_kind c_l_t_from c_l_t_behind c_l_t_end c_l_s_fields c_l_s_ties c_l_s_worth c_l_s_forces c_l_s_many c_l_s_codes c_l_s_b_list c_l_s_b_many c_l_s_p_list c_l_s_p_weights c_l_s_p_drawn c_l_s_p_many c_l_s_p_all c_l_s_p_turns c_nt_seen c_nt_many c_v_kept c_v_many c_v_turns c_v_stale c_v_goes c_v_row c_w_all c_w_mass c_g_picks c_g_many c_g_table c_g_rowNames c_g_columnNames c_g_rows c_g_columns c_g_scale) ++ [.inl (1, 1, .inr (.inl c_out))]) := by
    obtain ⟨⟨p, l, e, s, m⟩, ⟨args, below, meth, c⟩, ⟨dC, dI, aC⟩, r, A, Q⟩ := X
    obtain ⟨hQ, h3, h4⟩ := hX
    refine ⟨?_, h3, h4⟩
    rw [hQ]
    unfold xQ
    rw [xH_cong (aC := aC) (r := r) hr' (xScH_of (Nat.le_of_ble_eq_true rfl) rfl)]
    rfl
  refine xV_astore (L' := [(4, .ref 1003), (0, .ref 0), (1, .int x1), (2, .int x2), (3, .ref 81)]) 15 rfl dL_split_13 (xlt rfl) rfl ?_
  refine xV_iconst (v := 1) 16 rfl dL_split_15 (by decide) ?_
  exact xV_iretX hX dL_split_16 rfl (Nat.le_refl _) (Nat.le_refl _))
