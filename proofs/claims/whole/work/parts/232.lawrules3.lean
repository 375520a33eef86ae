/-! ===== the law's call of its own split; the script; the law's end ===== -/
def xGs (n0 m0 j : Nat) : Nat := if j < n0 then j else j + m0
theorem xGs_lo {n0 m0 j : Nat} (h : j < n0) : xGs n0 m0 j = j := if_pos h
theorem xGs_hi {n0 m0 j : Nat} (h : n0 ≤ j) : xGs n0 m0 j = j + m0 := if_neg (by omega)
theorem xSub_ends {hx mid : xHp} {c : xE} {n0 m0 : Nat} (hn : hx.length = n0) (hm : mid.length = m0) (hsc : xScH n0 hx) (hc : ∀ g, xe g c = c) : xSub (xGs n0 m0) (hx ++ [c]) (hx ++ (mid ++ [c])) := by
  refine ⟨fun j d hd => ?_, fun i j hi hj e => ?_⟩
  · have hj : j < n0 + 1 := by have := (List.getElem?_eq_some_iff.mp hd).1; rw [List.length_append, hn] at this; exact this
    by_cases h1 : j < n0
    · rw [List.getElem?_append_left (by omega)] at hd
      rw [xGs_lo h1, List.getElem?_append_left (by omega), hd, xe_cong (N := n0) (r := fun j => j) (fun j hj => xGs_lo hj) (hsc.2 d (List.mem_of_getElem? hd)), xe_id]
    · have h2 : j = n0 := by omega
      subst h2
      rw [List.getElem?_append_right (by omega), hn, Nat.sub_self] at hd
      have hdc : d = c := by cases hd; rfl
      subst hdc
      rw [xGs_hi (Nat.le_refl _), hc, List.getElem?_append_right (by omega), hn, show j + m0 - j = m0 by omega, List.getElem?_append_right (by omega), hm, Nat.sub_self]
      rfl
  · unfold xGs at e
    by_cases h1 : i < n0 <;> by_cases h2 : j < n0
    · rw [if_pos h1, if_pos h2] at e; exact e
    · rw [if_pos h1, if_neg h2] at e; omega
    · rw [if_neg h1, if_pos h2] at e; omega
    · rw [if_neg h1, if_neg h2] at e; omega
theorem xBack_ends {hx mid : xHp} {c c' : xE} {n0 m0 : Nat} (hn : hx.length = n0) (hm : mid.length = m0) (hsc : xScH n0 hx) (hc' : ∀ g, xe g c' = c') : xBack (xGs n0 m0) (hx ++ [c]) (hx ++ [c']) (hx ++ (mid ++ [c])) (hx ++ (mid ++ [c'])) := by
  refine ⟨by simp, by simp, fun j d hd => (xSub_ends hn hm hsc hc').1 j d hd, fun i hi => ?_⟩
  by_cases h1 : i < n0
  · rw [List.getElem?_append_left (by omega), List.getElem?_append_left (by omega)]
  · by_cases h2 : i < n0 + m0
    · have g1 : ∀ d : xE, (hx ++ (mid ++ [d]))[i]? = mid[i - hx.length]? := fun d => by
        rw [List.getElem?_append_right (by omega), List.getElem?_append_left (by omega)]
      rw [g1 c', g1 c]
    · by_cases h3 : i = n0 + m0
      · exact absurd (by rw [xGs_hi (Nat.le_refl _), h3]) (hi n0 (by rw [List.length_append, hn]; exact Nat.lt_succ_self _))
      · have g1 : ∀ d : xE, (hx ++ (mid ++ [d]))[i]? = none := fun d => List.getElem?_eq_none (by rw [List.length_append, List.length_append]; show hx.length + (mid.length + 1) ≤ i; omega)
        rw [g1 c', g1 c]
/-- what the law knows all the way: the script, the exception's words -/
def xLw (X : xX) (b L : Nat) (xs : Nat → Int32) : Prop := match X with
  | ((p, l, e, s, m), (args, below, meth, c), (dC, dI, aC), r, A, Q) => Q = lw_Z below #[Value.ref b] s ∧ args = #[Value.ref b] ∧ A = (fun q => s.heap.size ≤ q) ∧ meth.sig.returnType = some .boolean ∧ meth.locks = false ∧ va_X b L xs s s.heap ∧ b < s.heap.size ∧ r 2000 = b ∧ xY s ∧ l.stackTraces = false
theorem xLw_setr {X : xX} {b L : Nat} {xs : Nat → Int32} {r' : Nat → Nat} (hr : r' 2000 = X.2.2.2.1 2000) (h : xLw X b L xs) : xLw (xsetr X r') b L xs := by
  obtain ⟨⟨p, l, e, s, m⟩, ⟨args, below, meth, c⟩, ⟨dC, dI, aC⟩, r, A, Q⟩ := X
  obtain ⟨h1, h2, h3, h4, h5, h6, h7, h8, h9⟩ := h
  exact ⟨h1, h2, h3, h4, h5, h6, h7, hr.trans h8, h9⟩
theorem xLw_tr {X : xX} {b L : Nat} {xs : Nat → Int32} (h : xLw X b L xs) : X.1.2.1.stackTraces = false := by
  obtain ⟨⟨p, l, e, s, m⟩, ⟨args, below, meth, c⟩, ⟨dC, dI, aC⟩, r, A, Q⟩ := X
  exact h.2.2.2.2.2.2.2.2.2
section XL3
variable {J Jc : xJ} {X : xX} {n k b N : Nat} {xs : Nat → Int32} {h hx mid : xHp} {pc : Nat} {L : List (Nat × Value)} {st rest : List Value}
theorem xV_sld (o : Nat) (ho : pc + 1 = o) {i : Int32} {j : Nat} (hW : xLw X b N xs) (hd : decode J.1 pc = .ok (.iaload, 1)) (hin : vp_in i N) (hj : i.toNatClampNeg = j) (kk : xV J X n k h o L (.int (xs j) :: st)) : xV J X n k h pc L (.int i :: .ref 2000 :: st) := by
  subst ho
  subst hj
  obtain ⟨⟨p, l, e, s, m⟩, ⟨args, below, meth, c⟩, ⟨dC, dI, aC⟩, r, A, Q⟩ := X
  intro S hK hA H locs ls hP hD hS hl
  obtain ⟨-, -, hA2, -, -, h6, h7, h8, -⟩ := hW
  have hbA : ¬ A (r 2000) := by rw [hA2, h8]; exact Nat.not_le.mpr h7
  subst h8
  exact va_sld S.1 S.2.1 h6 h7 hbA hS hin hd (kk S hK hA H locs ls hP hD hS hl)
theorem xV_slenL (o : Nat) (ho : pc + 1 = o) (hW : xLw X b N xs) (hd : decode J.1 pc = .ok (.arraylength, 1)) (kk : xV J X n k h o L (.int (Int32.ofNat N) :: st)) : xV J X n k h pc L (.ref 2000 :: st) := by
  subst ho
  obtain ⟨⟨p, l, e, s, m⟩, ⟨args, below, meth, c⟩, ⟨dC, dI, aC⟩, r, A, Q⟩ := X
  intro S hK hA H locs ls hP hD hS hl
  obtain ⟨-, -, hA2, -, -, h6, h7, h8, -⟩ := hW
  have hbA : ¬ A (r 2000) := by rw [hA2, h8]; exact Nat.not_le.mpr h7
  subst h8
  exact va_slen S.1 S.2.1 h6 h7 hbA hS hd (kk S hK hA H locs ls hP hD hS hl)
abbrev jL_law : xJ := (code, 7, RL, 2048, 601024, 7293034)
theorem xV_endL (hW : xLw X b N xs) (hd : decode code pc = .ok (.ireturn, 1)) (hn : n ≤ 601024) (hk : k ≤ 7293034) : xV jL_law X n k h pc L [.int 1] := by
  obtain ⟨⟨p, l, e, s, m⟩, ⟨args, below, meth, c⟩, ⟨dC, dI, aC⟩, r, A, Q⟩ := X
  intro S hK hA H locs ls hP hD hS hl
  obtain ⟨rfl, rfl, rfl, h4, h5, -⟩ := hW
  refine va_forget (fun q hq => hS.2.2 q hq) ?_
  refine W.widen hn hk ?_
  exact lw_ret S.1 S.2.1 h4 h5 hd
theorem xV_lsplit {c0 c1 : xE} {y : MethodName} {hh : List (Nat × Nat × Nat × Nat)} {av : List Value} {v : Int32} {C : String} {idx : Nat} {l : Launch} (n0 m0 : Nat) (hn : hx.length = n0) (hm : mid.length = m0) (o : Nat) (ho : pc + 3 = o) (hW : xLw X b N xs) (hd : decode J.1 pc = .ok (.invokestatic idx, 3)) (hl0 : X.1.2.1 = l) (hM : xCtX l y (some .int) Jc hh av (hx ++ [c0]) (some (.int v)) (hx ++ [c1])) (hcode : Cond.codeWith y Jc.1 Jc.2.1 (some .int) hh ∈ wsL_law0) (hini : Cond.initialized y.cls ∈ wsL_law0) (hw2 : y.cls ≠ "java/lang/invoke/MethodHandle" ∧ y.cls ≠ "java/lang/invoke/VarHandle" ∧ (parseMethodDescriptor y.desc).map (fun d => d.parameters.length) = some av.length) (hv : Cond.static y ∈ wsL_law0) (hlk : Cond.methodLink J.2.2.1 idx y ∈ wsL_law0) (hst : st = (av.map (xv (xGs n0 m0))).reverse ++ rest) (hroom : (rest.map fun v => v.category).sum ≤ 8) (hdp : Jc.2.2.2.1 + 1 ≤ J.2.2.2.1) (hml : Jc.2.1 ≤ 21) (hf : n + Jc.2.2.2.2.1 ≤ J.2.2.2.2.1 ∧ k + Jc.2.2.2.2.2 ≤ J.2.2.2.2.2) (hsc : xScH n0 hx) (hc0 : ∀ g, xe g c0 = c0) (hc1 : ∀ g, xe g c1 = c1)
    (kk : xV J X (n + Jc.2.2.2.2.1) (k + Jc.2.2.2.2.2) (hx ++ (mid ++ [c1])) o L (.int v :: rest)) : xV J X n k (hx ++ (mid ++ [c0])) pc L st := by
  subst ho
  obtain ⟨⟨p, l, e, s, m⟩, ⟨args, below, meth, c⟩, ⟨dC, dI, aC⟩, r, A, Q⟩ := X
  intro S hK hA H locs ls hP hD hS hll
  subst hl0
  have hs := xSub_ends hn hm hsc hc0
  have hb := xBack_ends (c := c0) hn hm hsc hc1
  obtain ⟨hPc, hDc⟩ := xCut hP hD hs
  have hcat : ∀ l : List Value, ((l.map (xv r)).map fun v => v.category) = l.map fun v => v.category := fun l => by
    rw [List.map_map]; exact List.map_congr_left (fun v _ => xv_cat r v)
  have hFr := xFree (dC := dC) (dI := dI) hs hA hD hS
  have hgood : GoodIn wsL_law0 (va_wsS J.2.2.1 idx y (Cond.codeWith y Jc.1 Jc.2.1 (some .int) hh :: wsL_law0)) := by
    intro w hw9
    have hm : w ∈ wsL_law0 := by
      rcases List.mem_append.mp hw9 with h9 | h9
      · simp only [List.mem_cons, List.not_mem_nil, or_false] at h9
        rcases h9 with rfl | rfl | rfl
        · exact hlk
        · exact hv
        · exact hini
      · rcases List.mem_cons.mp h9 with rfl | h9
        · exact hcode
        · exact h9
    exact ⟨hm, good_of_word (List.all_eq_true.mp xGood w hm)⟩
  have hav : (av.map (xv (xGs n0 m0))).map (xv r) = av.map (xv (fun j => r (xGs n0 m0 j))) := by
    rw [List.map_map]
    exact List.map_congr_left (fun v _ => xv_xv r (xGs n0 m0) v)
  have hrun : vx_Run p l e (xR J.2.2.2.1 J.2.2.2.2.1 J.2.2.2.2.2) s m args below meth c H locs n k Jc.2.2.2.2.1 Jc.2.2.2.2.2 (F0 m pc ls (st.map (xv r))) (rest.map (xv r)) (xQ dC dI aC (fun j => r (xGs n0 m0 j)) (some (.int v)) (hx ++ [c1]) (va_A (xH aC (fun j => r (xGs n0 m0 j)) (hx ++ [c0])) H.size) (av.map (xv (fun j => r (xGs n0 m0 j)))).toArray) (fun _ _ _ => False) (va_A (xH aC (fun j => r (xGs n0 m0 j)) (hx ++ [c0])) H.size) := by
    refine vx_runSX (As := av.map (xv (fun j => r (xGs n0 m0 j)))) S (hM dC dI aC (fun j => r (xGs n0 m0 j)) H.size) (vx_cwSW av.length S.2.2.2.2 hgood rfl rfl rfl hw2 ⟨hdp, ?_⟩) ⟨?_, fun U hU hW9 => ⟨rfl, by rw [hU], by rw [hU]; exact hPc, by rw [hU]; exact hK.call hS hFr hW9, hDc.weaken (fun _ _ _ _ => trivial), xY.moved hW9.alike hW.2.2.2.2.2.2.2.2.1⟩⟩ rfl (by rw [List.length_map]) hll.1 ?_ (lv_room (by rw [hcat]; exact hroom)) hd hf
    · show 8 + (Jc.2.1 + 11) + (41 * Jc.2.2.2.1 + 32) ≤ 41 * J.2.2.2.1 + 32
      omega
    · intro a U g mk q
      obtain ⟨q0, q1, qP, qK, qD, qY⟩ := q
      exact ⟨q0, q1, qP, qK.blind rfl, qD, xY.moved (u := U) (U := U.calling g mk a) (Vm.Alike.refl _) qY⟩
    · show st.map (xv r) = _
      rw [hst, List.map_append, List.map_reverse, hav]
  refine xRunOn (g := xGs n0 m0) (hl := hx ++ [c0]) (hl' := hx ++ [c1]) (h' := hx ++ (mid ++ [c1])) (Jc := Jc) (rest := rest) (rv := some (.int v)) (a := (av.map (xv (fun j => r (xGs n0 m0 j)))).toArray) hs hb S hK hA hP hD hS hll ?_ kk
  intro T hT XX
  rcases hrun T hT XX with h9 | ⟨q9, st₀, t1, T', L2, E', ce, h0, X', hL2, e1, e2, hfalse, -⟩
  · exact h9
  · exact hfalse.elim
end XL3
