/-! ===== rules for the law: making beside the script, calls in the middle ===== -/
/-- references that a change of places below leaves -/
def xOkV (P : Nat → Prop) (v : Value) : Prop := ∀ a, v = .ref a → P a
def xOkE (P : Nat → Prop) (c : xE) : Prop := match c with
  | .inl (_, _, .inr (.inr l)) => ∀ b ∈ l, P b
  | .inl _ => True
  | .inr (_, fs) => ∀ v ∈ fs, xOkV P v
theorem xv_ok {P : Nat → Prop} {r r' : Nat → Nat} (hr : ∀ j, P j → r' j = r j) {v : Value} (h : xOkV P v) : xv r' v = xv r v := by
  cases v with
  | ref a => show Value.ref (r' a) = .ref (r a); rw [hr a (h a rfl)]
  | _ => rfl
theorem xe_ok {P : Nat → Prop} {r r' : Nat → Nat} (hr : ∀ j, P j → r' j = r j) {c : xE} (h : xOkE P c) : xe r' c = xe r c := by
  rcases c with ⟨kd, z, y⟩ | ⟨ci, fs⟩
  · rcases y with y | y | y
    · rfl
    · rfl
    · show (Sum.inl (kd, z, .inr (.inr (y.map r'))) : xE) = .inl (kd, z, .inr (.inr (y.map r)))
      rw [List.map_congr_left (fun b hb => hr b (h b hb))]
  · show (Sum.inr (ci, fs.map (xv r')) : xE) = .inr (ci, fs.map (xv r))
    rw [List.map_congr_left (fun v hv => xv_ok hr (h v hv))]
theorem xL_ok {P : Nat → Prop} {r r' : Nat → Nat} (hr : ∀ j, P j → r' j = r j) {L : List (Nat × Value)} (h : ∀ q ∈ L, xOkV P q.2) : xL r' L = xL r L := List.map_congr_left (fun q hq => by rw [xv_ok hr (h q hq)])
theorem xS_ok {P : Nat → Prop} {r r' : Nat → Nat} (hr : ∀ j, P j → r' j = r j) {st : List Value} (h : ∀ v ∈ st, xOkV P v) : st.map (xv r') = st.map (xv r) := List.map_congr_left (fun v hv => xv_ok hr (h v hv))
theorem xScE_ok {N : Nat} {P : Nat → Prop} (hP : ∀ j, j < N → P j) {c : xE} (h : xScE N c) : xOkE P c := by
  rcases c with ⟨kd, z, y⟩ | ⟨ci, fs⟩
  · rcases y with y | y | y
    · trivial
    · trivial
    · exact fun b hb => hP b (h b hb)
  · exact fun v hv a ha => hP a (h v hv a ha)
theorem xe_shift_ok {n0 : Nat} {P : Nat → Prop} (hP : ∀ j, n0 ≤ j → P j) (c : xE) : xOkE P (xe (fun j => n0 + j) c) := by
  rcases c with ⟨kd, z, y⟩ | ⟨ci, fs⟩
  · rcases y with y | y | y
    · trivial
    · trivial
    · intro b hb
      obtain ⟨a, -, rfl⟩ := List.mem_map.mp hb
      exact hP _ (Nat.le_add_right _ _)
  · intro v hv a ha
    obtain ⟨w, -, rfl⟩ := List.mem_map.mp hv
    cases w with
    | ref x =>
      have e : n0 + x = a := by cases ha; rfl
      exact hP a (by omega)
    | _ => cases ha
section XLW
variable {J Jc : xJ} {X : xX} {n k : Nat} {h hx hm t : xHp} {pc : Nat} {L : List (Nat × Value)} {st rest : List Value}
theorem xV_newL (n0 : Nat) (hn0 : h.length = n0) (o : Nat) (ho : pc + 3 = o) {idx ci : Nat} {q : vw_C} {fs : List Value} (hd : decode J.1 pc = .ok (.new idx, 3)) (hci : vwCl[ci]? = some q) (hw : Cond.classLink J.2.2.1 idx q.1 ∈ wsL_law0 ∧ Cond.instantiable q.1 q.2.2 ∈ wsL_law0 ∧ Cond.initialized q.1 ∈ wsL_law0) (hx : ∀ r, fs.map (xv r) = fs) (hfs : ∀ j, j < q.2.2 → defaultValue (xTy ci j) = vp_V fs j) (hcells : n + 1 ≤ J.2.2.2.2.1) (hslots : k + q.2.2 ≤ J.2.2.2.2.2) (hsc : xScH n0 h) (hL : ∀ q ∈ L, xOkV (fun j => j ≠ n0) q.2) (hst : ∀ v ∈ st, xOkV (fun j => j ≠ n0) v)
    (kk : ∀ r' : Nat → Nat, (∀ j, j ≠ n0 → r' j = X.2.2.2.1 j) → xV J (xsetr X r') (n + 1) (k + q.2.2) (h ++ [.inr (ci, fs)]) o L (.ref n0 :: st)) : xV J X n k h pc L st := by
  subst ho
  subst hn0
  obtain ⟨⟨p, l, e, s, m⟩, ⟨args, below, meth, c⟩, ⟨dC, dI, aC⟩, r, A, Q⟩ := X
  intro S hK hA H locs ls hP hD hS hl
  obtain ⟨C, T, N⟩ := q
  have h3 := xIn hci
  refine va_new S.1 S.2.1 S.2.2.2.2 h3.1 (xTy ci) h3.2.1 S.2.2.2.1 (S.2.2.2.2 _ hw.1) (S.2.2.2.2 _ hw.2.1) (S.2.2.2.2 _ hw.2.2) hK.1 hP hD hS hA hci hfs hcells hslots hd (fun q H1 hP1 hD1 hS1 => ?_)
  have hr : ∀ j, j ≠ h.length → (fun j => if j = h.length then q else r j) j = r j := fun j hj => if_neg hj
  have hr0 : (fun j => if j = h.length then q else r j) h.length = q := if_pos rfl
  generalize (fun j => if j = h.length then q else r j) = r' at hr hr0
  have e1 := xGrow (aC := aC) (c := .inr (ci, fs)) (q := q) (e := .inr (ci, fs)) (fun j hj => hr j (by omega)) hr0 hsc (by show (Sum.inr (ci, fs.map (xv r')) : va_E) = _; rw [hx])
  have e2 := xL_ok hr hL
  have e3 : (Value.ref h.length :: st).map (xv r') = .ref q :: st.map (xv r) := by
    show Value.ref (r' h.length) :: st.map (xv r') = _
    rw [hr0, xS_ok hr hst]
  have K := kk r' hr S hK hA H1 locs ls (by rw [e1]; exact hP1) (by rw [e1]; exact hD1) hS1 (by rw [e2]; exact hl)
  rw [e3] at K
  exact K
theorem xV_newaL (n0 : Nat) (hn0 : h.length = n0) (o : Nat) (ho : pc + 2 = o) {atype : ArrayType} {x : Int32} {N kd : Nat} {ty : FieldType} {a0 : xAr} (hd : decode J.1 pc = .ok (.newarray atype, 2)) (hw : Cond.arrayClass (newarray.typeOf atype) ∈ wsL_law0) (hty : newarray.typeOf atype = ty) (hkd : xKs[kd]? = some ty) (ha : ∀ cA : ClassId, vp_cell cA (xca a0) = arrV cA N (fun _ => defaultValue ty)) (hx : ∀ r, xa r a0 = a0) (hn : ¬ x < 0) (hN : x.toNatClampNeg = N) (hbytes : N * componentBytes ty ≤ 536870912) (hcells : n + 1 ≤ J.2.2.2.2.1) (hslots : k + N ≤ J.2.2.2.2.2) (hsc : xScH n0 h) (hL : ∀ q ∈ L, xOkV (fun j => j ≠ n0) q.2) (hst : ∀ v ∈ st, xOkV (fun j => j ≠ n0) v)
    (kk : ∀ r' : Nat → Nat, (∀ j, j ≠ n0 → r' j = X.2.2.2.1 j) → xV J (xsetr X r') (n + 1) (k + N) (h ++ [.inl (kd, a0)]) o L (.ref n0 :: st)) : xV J X n k h pc L (.int x :: st) := by
  subst ho
  subst hn0
  obtain ⟨⟨p, l, e, s, m⟩, ⟨args, below, meth, c⟩, ⟨dC, dI, aC⟩, r, A, Q⟩ := X
  intro S hK hA H locs ls hP hD hS hl
  refine va_newa S.1 S.2.1 (S.2.2.2.2 _ hw) hty hK.1 hP hD hS hA ha hn hN hbytes hcells hslots hd (fun q cA H1 hK1 hP1 hD1 hS1 => ?_)
  have hcA : cA = aC kd := by
    have h1 := xRA (hK.1.2 kd _ (xT_at hkd)).2
    have h2 := xRA (hK1.2 (xT aC).length (cA, ty) (by rw [List.getElem?_append_right (Nat.le_refl _), Nat.sub_self]; rfl)).2
    exact Option.some.inj (h2.symm.trans h1)
  subst hcA
  have hr : ∀ j, j ≠ h.length → (fun j => if j = h.length then q else r j) j = r j := fun j hj => if_neg hj
  have hr0 : (fun j => if j = h.length then q else r j) h.length = q := if_pos rfl
  generalize (fun j => if j = h.length then q else r j) = r' at hr hr0
  have e1 := xGrow (aC := aC) (c := .inl (kd, a0)) (q := q) (e := .inl (aC kd, xca a0)) (fun j hj => hr j (by omega)) hr0 hsc (by show (Sum.inl (aC kd, xca (xa r' a0)) : va_E) = _; rw [hx])
  have e2 := xL_ok hr hL
  have e3 : (Value.ref h.length :: st).map (xv r') = .ref q :: st.map (xv r) := by
    show Value.ref (r' h.length) :: st.map (xv r') = _
    rw [hr0, xS_ok hr hst]
  have K := kk r' hr S hK hA H1 locs ls (by rw [e1]; exact hP1) (by rw [e1]; exact hD1) hS1 (by rw [e2]; exact hl)
  rw [e3] at K
  exact K
/-- another r above: the heap doesn't see it -/
theorem xV_re {r' : Nat → Nat} {M : Nat} (hr : ∀ j, j < M → X.2.2.2.1 j = r' j) (hsc : xScH M h) (hL : ∀ q ∈ L, xOkV (fun j => X.2.2.2.1 j = r' j) q.2) (hst : ∀ v ∈ st, xOkV (fun j => X.2.2.2.1 j = r' j) v) (kk : xV J (xsetr X r') n k h pc L st) : xV J X n k h pc L st := by
  obtain ⟨⟨p, l, e, s, m⟩, ⟨args, below, meth, c⟩, ⟨dC, dI, aC⟩, r, A, Q⟩ := X
  intro S hK hA H locs ls hP hD hS hl
  have e1 := xH_cong (aC := aC) (r := r') (r' := r) hr hsc
  have e2 : xL r L = xL r' L := xL_ok (P := fun j => r j = r' j) (fun j hj => hj) hL
  have e3 : st.map (xv r) = st.map (xv r') := xS_ok (P := fun j => r j = r' j) (fun j hj => hj) hst
  rw [e1] at hP hD
  rw [e2] at hl
  rw [e3]
  exact kk S hK hA H locs ls hP hD hS hl
theorem xSub_mid {hm : xHp} {n0 : Nat} (hn : hx.length = n0) : xSub (fun j => n0 + j) hm (hx ++ (hm.map (xe (fun j => n0 + j)) ++ t)) := by
  subst hn
  refine ⟨fun j c hc => ?_, fun i j _ _ e => by have e : hx.length + i = hx.length + j := e; omega⟩
  show (hx ++ (hm.map (xe (fun j => hx.length + j)) ++ t))[hx.length + j]? = _
  rw [List.getElem?_append_right (by omega), show hx.length + j - hx.length = j by omega, List.getElem?_append_left (by rw [List.length_map]; exact (List.getElem?_eq_some_iff.mp hc).1), List.getElem?_map, hc]
  rfl
theorem xBack_mid {hm hm' : xHp} {n0 : Nat} (hn : hx.length = n0) (hl : hm'.length = hm.length) : xBack (fun j => n0 + j) hm hm' (hx ++ (hm.map (xe (fun j => n0 + j)) ++ t)) (hx ++ (hm'.map (xe (fun j => n0 + j)) ++ t)) := by
  refine ⟨hl, by simp [hl], fun j c hc => (xSub_mid (t := t) hn).1 j c hc, fun i hi => ?_⟩
  subst hn
  by_cases h1 : i < hx.length
  · rw [List.getElem?_append_left h1, List.getElem?_append_left h1]
  · by_cases h2 : i < hx.length + hm.length
    · exact absurd (show hx.length + (i - hx.length) = i by omega) (hi (i - hx.length) (by omega))
    · have g1 : ∀ w : xHp, w.length = hm.length → (hx ++ (w.map (xe (fun j => hx.length + j)) ++ t))[i]? = t[i - hx.length - hm.length]? := fun w hw => by
        rw [List.getElem?_append_right (by omega), List.getElem?_append_right (by rw [List.length_map]; omega), List.length_map, hw]
      rw [g1 hm' hl, g1 hm rfl]
/-- a method of the object whose cells lie behind the first -/
theorem xV_mid {hm' : xHp} {y : MethodName} {ret : Option FieldType} {rv : Option Value} {C : String} {idx : Nat} {l : Launch} {av2 : List Value} (n0 : Nat) (hn : hx.length = n0) (o : Nat) (ho : pc + 3 = o) {ci : Nat} {fs : List Value} {q : vw_C} (hd : decode J.1 pc = .ok (.invokevirtual idx, 3)) (hl0 : X.1.2.1 = l) (hM : xCt l y ret Jc (.ref 0 :: av2) hm rv hm') (hw : xMd y C ret Jc av2.length) (hv : xMv y C) (hlk : Cond.methodLink J.2.2.1 idx y ∈ wsL_law0) (hlen : hm'.length = hm.length) (hav : av2.map (xv (fun j => n0 + j)) = av2) (hrv : rv.map (xv (fun j => n0 + j)) = rv) (hst : st = av2.reverse ++ .ref n0 :: rest) (hcb : hm[0]? = some (.inr (ci, fs))) (hci : vwCl[ci]? = some q) (hC : q.1 = C) (hroom : (rest.map fun v => v.category).sum ≤ 8) (hdp : Jc.2.2.2.1 + 1 ≤ J.2.2.2.1) (hml : Jc.2.1 ≤ 21) (hf : n + Jc.2.2.2.2.1 ≤ J.2.2.2.2.1 ∧ k + Jc.2.2.2.2.2 ≤ J.2.2.2.2.2)
    (kk : xV J X (n + Jc.2.2.2.2.1) (k + Jc.2.2.2.2.2) (hx ++ (hm'.map (xe (fun j => n0 + j)) ++ t)) o L (rv.toList ++ rest)) : xV J X n k (hx ++ (hm.map (xe (fun j => n0 + j)) ++ t)) pc L st := by
  subst ho
  have hs := xSub_mid (hx := hx) (hm := hm) (t := t) hn
  refine xV_callv (av2 := av2) (b := n0) hd hl0 hM hw hv hlk hs (xBack_mid hn hlen) (by show Value.ref (n0 + 0) :: av2.map (xv (fun j => n0 + j)) = _; rw [hav, Nat.add_zero]) hst (by have := hs.1 0 _ hcb; exact this) hci hC hroom hdp hml hf ?_
  rw [hrv]
  exact kk
end XLW
/-- behind a constructor: the last cell made, with what is behind it -/
theorem xMadeL {M : Nat} {J Jc : xJ} {n k : Nat} {h0 hl' : xHp} {c0 : xE} {pc : Nat} {L : List (Nat × Value)} {rest : List Value} {p : Program} {l : Launch} {e : Env} {s : State} {m : MethodId} {args : Array Value} {below : List Frame} {meth : Method} {c : Code} {dC : Nat → ClassId} {dI : Nat → Nat → Nat} {aC : Nat → ClassId} {r : Nat → Nat} {A : Nat → Prop} {Q : State → Prop} {H : Heap} {locs : List Loc} {ls : Array Slot} {st0 a : _}
    (S : CallFix p m c J.1 J.2.1 s args wsL_law0 J.2.2.1) (hK : xKK dC dI aC A s s.heap) (hA : ∀ q : Nat, s.heap.size ≤ q → A q) (hP : va_P (dC, dI) vwCl (xH aC r (h0 ++ [c0])) H) (hD : va_D A (xH aC r (h0 ++ [c0]))) (hS : va_S A s.heap H locs) (hll : lv_has ls J.2.1 (xL r L))
    (hsc : xScH (h0.length + 1) h0) (hscM : xScH M hl') (hM1 : 1 ≤ M) (hL : ∀ q ∈ L, xOkV (fun j => j < h0.length + 1 ∨ h0.length + M ≤ j) q.2) (hst : ∀ v ∈ rest, xOkV (fun j => j < h0.length + 1 ∨ h0.length + M ≤ j) v)
    (hr : va_Run p l e (xR J.2.2.2.1 J.2.2.2.2.1 J.2.2.2.2.2) s m args below meth c H locs n k Jc.2.2.2.2.1 Jc.2.2.2.2.2 (F0 m pc ls st0) (rest.map (xv r)) (xQN dC dI aC (fun j => r (h0.length + j)) 1 hl' (va_A (xH aC (fun j => r (h0.length + j)) [c0]) H.size) a) (va_A (xH aC (fun j => r (h0.length + j)) [c0]) H.size))
    (kk : ∀ r' : Nat → Nat, (∀ j, j < h0.length + 1 ∨ h0.length + M ≤ j → r' j = r j) → xV J ((p, l, e, s, m), (args, below, meth, c), (dC, dI, aC), r', A, Q) (n + Jc.2.2.2.2.1) (k + Jc.2.2.2.2.2) (h0 ++ hl'.map (xe (fun j => h0.length + j))) (pc + 3) L rest) : W p l e (xR J.2.2.2.1 J.2.2.2.2.1 J.2.2.2.2.2) s m args below meth c H locs n k Q (F0 m pc ls st0) := by
  have hlast : (h0 ++ [c0])[h0.length]? = some c0 := by rw [List.getElem?_append_right (Nat.le_refl _), Nat.sub_self]; rfl
  have hold : ∀ (i : Nat) (d : xE), h0[i]? = some d → (h0 ++ [c0])[i]? = some d := fun i d hd => by rw [List.getElem?_append_left (List.getElem?_eq_some_iff.mp hd).1]; exact hd
  have hAc : ∀ q, va_A (xH aC (fun j => r (h0.length + j)) [c0]) H.size q → q = r h0.length ∨ H.size ≤ q := by
    rintro q (⟨j, e, he⟩ | he)
    · obtain ⟨c2, hc2, e2⟩ := xH_some he
      have hj : j < 1 := (List.getElem?_eq_some_iff.mp hc2).1
      have e3 : q = r (h0.length + j) := congrArg Prod.fst e2
      rw [show j = 0 by omega] at e3
      exact Or.inl e3
    · exact Or.inr he
  have hAl : A (r h0.length) := hD.2 _ _ (xH_at (aC := aC) (r := r) hlast)
  have hF : ∀ q, va_A (xH aC (fun j => r (h0.length + j)) [c0]) H.size q → A q := fun q hq => by
    rcases hAc q hq with rfl | h
    · exact hAl
    · exact hA q (Nat.le_trans hS.1 h)
  intro T hT XX
  obtain ⟨v, st₀, t, T', L2, h00, X', hL2, e1, e2, ⟨⟨r2, hr2, hv, hP1, hD1⟩, hz, hk2⟩, stp⟩ := hr T hT XX
  cases hv
  rw [h00] at hz hk2
  rw [← e1] at hP1 hz hk2
  have h20 : r2 0 = r h0.length := hr2 0 (by omega)
  obtain ⟨r', hrA, hr1⟩ : ∃ r' : Nat → Nat, (∀ j, j < h0.length + 1 ∨ h0.length + M ≤ j → r' j = r j) ∧ ∀ j, j < M → r' (h0.length + j) = r2 j := ⟨fun j => if j < h0.length then r j else if j < h0.length + M then r2 (j - h0.length) else r j, fun j hj => by
      show (if j < h0.length then r j else if j < h0.length + M then r2 (j - h0.length) else r j) = r j
      by_cases h9 : j < h0.length
      · rw [if_pos h9]
      · rw [if_neg h9]
        rcases hj with hj | hj
        · rw [if_pos (by omega), show j = h0.length by omega, Nat.sub_self, h20]
        · rw [if_neg (by omega)], fun j hj => by
      show (if h0.length + j < h0.length then r (h0.length + j) else if h0.length + j < h0.length + M then r2 (h0.length + j - h0.length) else r (h0.length + j)) = r2 j
      rw [if_neg (by omega), if_pos (by omega), show h0.length + j - h0.length = j by omega]⟩
  have hr' : ∀ j, j < h0.length + 1 → r' j = r j := fun j hj => hrA j (Or.inl hj)
  have hlM : ∀ (j : Nat) (d : xE), hl'[j]? = some d → j < M := fun j d hd => Nat.lt_of_lt_of_le (List.getElem?_eq_some_iff.mp hd).1 hscM.1
  have hnew : ∀ (i : Nat) (d : xE), (h0 ++ hl'.map (xe (fun j => h0.length + j)))[i]? = some d → (i < h0.length ∧ h0[i]? = some d) ∨ ∃ j d', i = h0.length + j ∧ hl'[j]? = some d' ∧ d = xe (fun j => h0.length + j) d' := by
    intro i d hd
    by_cases hi : i < h0.length
    · rw [List.getElem?_append_left hi] at hd
      exact Or.inl ⟨hi, hd⟩
    · rw [List.getElem?_append_right (by omega), List.getElem?_map] at hd
      cases hj : hl'[i - h0.length]? with
      | none => rw [hj] at hd; cases hd
      | some d' => rw [hj] at hd; exact Or.inr ⟨i - h0.length, d', by omega, hj, (Option.some.inj hd).symm⟩
  have hlow : ∀ (i : Nat) (d : xE), h0[i]? = some d → r i < H.size ∧ ¬ va_A (xH aC (fun j => r (h0.length + j)) [c0]) H.size (r i) := by
    intro i d hd
    have h1 := (hP i _ (xH_at (hold i d hd))).lt
    have hi : i < h0.length := (List.getElem?_eq_some_iff.mp hd).1
    refine ⟨h1, fun hq => ?_⟩
    rcases hAc _ hq with h2 | h2
    · have := hD.1 i h0.length _ _ (xH_at (aC := aC) (r := r) (hold i d hd)) (xH_at (aC := aC) (r := r) hlast) h2
      omega
    · have h3 : r i < H.size := h1
      omega
  have hP2 : va_P (dC, dI) vwCl (xH aC r' (h0 ++ hl'.map (xe (fun j => h0.length + j)))) T'.heap := by
    intro i q hq
    obtain ⟨d, hd, rfl⟩ := xH_some hq
    rcases hnew i d hd with ⟨hi, hd0⟩ | ⟨j, d', rfl, hd', rfl⟩
    · have h1 := hP i _ (xH_at (hold i d hd0))
      rw [hr' i (by omega), xe_cong hr' (hsc.2 d (List.mem_of_getElem? hd0))]
      exact h1.kept (hk2 _ (hlow i d hd0).1 (hlow i d hd0).2)
    · have h9 := hP1 j _ (xH_at hd')
      rw [xe_xe, hr1 j (hlM j d' hd'), xe_cong (N := M) (r := r2) hr1 (hscM.2 d' (List.mem_of_getElem? hd'))]
      exact h9
  have hD2 : va_D A (xH aC r' (h0 ++ hl'.map (xe (fun j => h0.length + j)))) := by
    refine ⟨fun i i2 p q hp hq hpq => ?_, fun i q hq => ?_⟩
    · obtain ⟨d, hd, rfl⟩ := xH_some hp
      obtain ⟨d2, hd2, rfl⟩ := xH_some hq
      have hpq : r' i = r' i2 := hpq
      have cross : ∀ (i : Nat) (d : xE) (j : Nat) (d' : xE), h0[i]? = some d → hl'[j]? = some d' → r' i = r' (h0.length + j) → False := by
        intro i d j d' h1 h2 h3
        rw [hr' i (by have := (List.getElem?_eq_some_iff.mp h1).1; omega), hr1 j (hlM j d' h2)] at h3
        have h4 : va_A (xH aC (fun j => r (h0.length + j)) [c0]) H.size (r2 j) := hD1.2 j _ (xH_at (aC := aC) (r := r2) h2)
        rw [← h3] at h4
        exact (hlow i d h1).2 h4
      rcases hnew i d hd with ⟨hi, hd0⟩ | ⟨j, d', rfl, hd', rfl⟩
      · rcases hnew i2 d2 hd2 with ⟨hi2, hd02⟩ | ⟨j2, d2', rfl, hd2', rfl⟩
        · rw [hr' i (by omega), hr' i2 (by omega)] at hpq
          exact hD.1 i i2 _ _ (xH_at (aC := aC) (r := r) (hold i d hd0)) (xH_at (aC := aC) (r := r) (hold i2 d2 hd02)) hpq
        · exact (cross i d j2 d2' hd0 hd2' hpq).elim
      · rcases hnew i2 d2 hd2 with ⟨hi2, hd02⟩ | ⟨j2, d2', rfl, hd2', rfl⟩
        · exact (cross i2 d2 j d' hd02 hd' hpq.symm).elim
        · rw [hr1 j (hlM j d' hd'), hr1 j2 (hlM j2 d2' hd2')] at hpq
          have := hD1.1 j j2 _ _ (xH_at (aC := aC) (r := r2) hd') (xH_at (aC := aC) (r := r2) hd2') hpq
          omega
    · obtain ⟨d, hd, rfl⟩ := xH_some hq
      show A (r' i)
      rcases hnew i d hd with ⟨hi, hd0⟩ | ⟨j, d', rfl, hd', rfl⟩
      · rw [hr' i (by omega)]
        exact hD.2 i _ (xH_at (aC := aC) (r := r) (hold i d hd0))
      · rw [hr1 j (hlM j d' hd')]
        exact hF _ (hD1.2 j _ (xH_at (aC := aC) (r := r2) hd'))
  have hS2 : va_S A s.heap T'.heap (locs ++ L2) := ⟨Nat.le_trans hS.1 hz, fun q h1 h2 => by rw [hk2 q (Nat.lt_of_lt_of_le h1 hS.1) (fun z => h2 (hF q z))]; exact hS.2.1 q h1 h2, fun q hq => by
      rcases List.mem_append.mp hq with h | h
      · exact hS.2.2 q h
      · exact hF _ (hL2 q h)⟩
  have e5 : xL r' L = xL r L := xL_ok hrA hL
  have e6 : rest.map (xv r') = rest.map (xv r) := xS_ok hrA hst
  obtain ⟨t2, a1, b1⟩ := kk r' hrA S hK hA T'.heap (locs ++ L2) ls hP2 hD2 hS2 (by rw [e5]; exact hll) T' rfl X'
  rw [e6] at a1
  exact ⟨t2, stp t2 a1, b1⟩
theorem xV_ctorL {M : Nat} {J Jc : xJ} {X : xX} {n k : Nat} {h0 hl' : xHp} {c0 : xE} {pc : Nat} {L : List (Nat × Value)} {rest : List Value} {y : MethodName} {C : String} {idx : Nat} {l : Launch} (n0 : Nat) (hn0 : h0.length = n0) (o : Nat) (ho : pc + 3 = o) (hd : decode J.1 pc = .ok (.invokespecial idx, 3)) (hl0 : X.1.2.1 = l) (hM : xCtN l y Jc c0 hl') (hw : xMd y C none Jc 0) (hyn : y.name = "<init>") (hv : Cond.instanceMethod y ∈ wsL_law0) (hlk : Cond.methodLink J.2.2.1 idx y ∈ wsL_law0) (hc0 : ∀ g, xe g c0 = c0) (hroom : (rest.map fun v => v.category).sum ≤ 8) (hdp : Jc.2.2.2.1 + 1 ≤ J.2.2.2.1) (hml : Jc.2.1 ≤ 21) (hf : n + Jc.2.2.2.2.1 ≤ J.2.2.2.2.1 ∧ k + Jc.2.2.2.2.2 ≤ J.2.2.2.2.2)
    (hsc : xScH (n0 + 1) h0) (hscM : xScH M hl') (hM1 : 1 ≤ M) (hL : ∀ q ∈ L, xOkV (fun j => j < n0 + 1 ∨ n0 + M ≤ j) q.2) (hst : ∀ v ∈ rest, xOkV (fun j => j < n0 + 1 ∨ n0 + M ≤ j) v)
    (kk : ∀ r' : Nat → Nat, (∀ j, j < n0 + 1 ∨ n0 + M ≤ j → r' j = X.2.2.2.1 j) → xV J (xsetr X r') (n + Jc.2.2.2.2.1) (k + Jc.2.2.2.2.2) (h0 ++ hl'.map (xe (fun j => n0 + j))) o L rest) : xV J X n k (h0 ++ [c0]) pc L (.ref n0 :: rest) := by
  subst ho
  subst hn0
  obtain ⟨⟨p, l, e, s, m⟩, ⟨args, below, meth, c⟩, ⟨dC, dI, aC⟩, r, A, Q⟩ := X
  intro S hK hA H locs ls hP hD hS hll
  subst hl0
  have hsub := xOneCut (h0 := h0) (hc0 _)
  obtain ⟨hPc, hDc⟩ := xCut hP hD hsub
  refine xMadeL (Jc := Jc) (a := [Value.ref (r h0.length)].toArray) S hK hA hP hD hS hll hsc hscM hM1 hL hst ?_ kk
  refine va_runI (As := []) (b := r h0.length) S (hM dC dI aC (fun j => r (h0.length + j)) H.size) (cwI 0 S.2.2.2.2 (xGoodIn hw) rfl rfl rfl (S.2.2.2.2 _ (by rw [hw.2.2.1]; exact hw.2.1)) (S.2.2.2.2 _ hlk) (S.2.2.2.2 _ hv) hyn hw.2.2.2 ⟨hdp, ?_⟩) ⟨xBlind, fun U hU hW => ⟨rfl, by rw [hU], by rw [hU]; exact hPc, by rw [hU]; exact hK.call hS (xFree (dC := dC) (dI := dI) hsub hA hD hS) hW, hDc.weaken (fun _ _ _ _ => trivial)⟩⟩ rfl rfl hll.1 rfl (lv_room (xCats hroom)) hd hf
  show 8 + (Jc.2.1 + 11) + (41 * Jc.2.2.2.1 + 32) ≤ 41 * J.2.2.2.1 + 32
  omega
