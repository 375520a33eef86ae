/-! ===== making: contracts with new cells ===== -/
def xsetr (X : xX) (r' : Nat → Nat) : xX := (X.1, X.2.1, X.2.2.1, r', X.2.2.2.2)
/-- the end of a method that makes cells: the old places stay -/
def xQN (dC : Nat → ClassId) (dI : Nat → Nat → Nat) (aC : Nat → ClassId) (r : Nat → Nat) (N : Nat) (h' : xHp) (A : Nat → Prop) : Array Value → State → Outcome → State → Prop := fun _ st oc t =>
  (∃ r2 : Nat → Nat, (∀ j, j < N → r2 j = r j) ∧ oc = .returned none ∧ va_P (dC, dI) vwCl (xH aC r2 h') t.heap ∧ va_D A (xH aC r2 h')) ∧ va_F A st t
def xIsN (J : xJ) (X : xX) (N : Nat) (h' : xHp) : Prop := match X with
  | ((p, l, e, s, m), (args, below, meth, c), (dC, dI, aC), r, A, Q) => ∃ r0 : Nat → Nat, (∀ j, j < N → r j = r0 j) ∧ Q = MQ below (xQN dC dI aC r0 N h' A) args s J.2.2.2.2.1 J.2.2.2.2.2 A ∧ meth.sig.returnType = none ∧ meth.locks = false ∧ meth.name = "<init>"
theorem xIsN_setr {J : xJ} {X : xX} {N : Nat} {h' : xHp} {r' : Nat → Nat} {M : Nat} (hr : ∀ j, j < M → r' j = X.2.2.2.1 j) (hNM : N ≤ M) (hX : xIsN J X N h') : xIsN J (xsetr X r') N h' := by
  obtain ⟨⟨p, l, e, s, m⟩, ⟨args, below, meth, c⟩, ⟨dC, dI, aC⟩, r, A, Q⟩ := X
  obtain ⟨r0, h0, h1⟩ := hX
  exact ⟨r0, fun j hj => (hr j (Nat.lt_of_lt_of_le hj hNM)).trans (h0 j hj), h1⟩
def xCtN (l : Launch) (y : MethodName) (J : xJ) (c0 : xE) (h' : xHp) : Prop :=
  ∀ (dC : Nat → ClassId) (dI : Nat → Nat → Nat) (aC : Nat → ClassId) (r : Nat → Nat) (sz : Nat),
    Met l y (Cond.code y J.1 J.2.1 none :: wsL_law0) (xR J.2.2.2.1 J.2.2.2.2.1 J.2.2.2.2.2)
      (va_Pc ([Value.ref 0].map (xv r)) (fun U => U.heap.size = sz ∧ va_P (dC, dI) vwCl (xH aC r [c0]) U.heap ∧ xKK dC dI aC (va_A (xH aC r [c0]) sz) U U.heap ∧ va_D (fun _ => True) (xH aC r [c0])))
      (xQN dC dI aC r 1 h' (va_A (xH aC r [c0]) sz)) J.2.2.2.2.1 J.2.2.2.2.2 (va_A (xH aC r [c0]) sz)
theorem xCtN_of {l : Launch} {y : MethodName} {J : xJ} {c0 : xE} {h' : xHp} (hy : plainName y.cls = true) (hyn : y.name = "<init>") (hc : y.cls = J.2.2.1) (hn : 1 ≤ J.2.1)
    (body : ∀ X : xX, X.1.2.1 = l → xIsN J X 1 h' → xV J X 0 0 [c0] 0 [(0, .ref 0)] []) : xCtN l y J c0 h' := by
  intro dC dI aC r sz
  refine Met.ofW (cc := J.1) (maxL := J.2.1) (ret := none) hy rfl ?_
  intro p e s m args below meth c s₁ B hml hv
  obtain ⟨rfl, hsz, hP, hK, hD0⟩ := hv
  have hts := atoms_spec (ws := Cond.code y J.1 J.2.1 none :: wsL_law0) B.pre
  have hown : s.vm.findClass y.cls = some m.cls := findClass_of_methodNamed B.named
  have hin : meth.name = "<init>" := (name_of_methodNamed B.named B.method).1.trans hyn
  subst hsz
  have hD := hD0.self (sz := s.heap.size)
  have hl := lv_entry ([Value.ref 0].map (xv r)) (n := J.2.1) hn
  rw [lg_entry_eq]
  refine body ((p, l, e, s, m), (([Value.ref 0].map (xv r)).toArray, below, meth, c), (dC, dI, aC), r, va_A (xH aC r [c0]) s.heap.size, MQ below (xQN dC dI aC r 1 h' (va_A (xH aC r [c0]) s.heap.size)) ([Value.ref 0].map (xv r)).toArray s J.2.2.2.2.1 J.2.2.2.2.2 (va_A (xH aC r [c0]) s.heap.size)) rfl ⟨r, fun _ _ => rfl, rfl, B.returns, B.notSynchronized, hin⟩ ⟨B.exec, B.bytes, hml, hc ▸ hown, fun w hw => hts w (List.mem_cons_of_mem _ hw)⟩ hK (fun q hq => Or.inr hq) s.heap [] _ hP hD va_S.rf hl
section XN
variable {J : xJ} {X : xX} {n k : Nat} {h : xHp} {pc : Nat} {L : List (Nat × Value)} {st : List Value}
/-- the end: the cells in another order -/
theorem xV_vretN {N : Nat} {h' : xHp} (g : Nat → Nat) (hs : xSub g h' h) (hg : ∀ j, j < N → g j = j) (hX : xIsN J X N h') (hd : decode J.1 pc = .ok (.return_, 1)) (hn : n ≤ J.2.2.2.2.1) (hk : k ≤ J.2.2.2.2.2) : xV J X n k h pc L [] := by
  obtain ⟨⟨p, l, e, s, m⟩, ⟨args, below, meth, c⟩, ⟨dC, dI, aC⟩, r, A, Q⟩ := X
  obtain ⟨r0, h0, rfl, hr, hlocks, -⟩ := hX
  intro S hK hA H locs ls hP hD hS hl
  refine W.widen hn hk ?_
  obtain ⟨hPc, hDc⟩ := xCut hP hD hs
  exact W.vret S.1 S.2.1 hr (fun t ht hW => ⟨⟨fun j => r (g j), fun j hj => by show r (g j) = r0 j; rw [hg j hj]; exact h0 j hj, rfl, by rw [ht]; exact hPc, hDc⟩, hS.F ht⟩) hS.2.2 hd
theorem xm_obj : Cond.instanceMethod Lib.objectInit ∈ wsL_law0 ∧ Cond.code Lib.objectInit ⟨#[0xb1]⟩ 1 none ∈ wsL_law0 := ⟨List.mem_of_getElem? (i := 11) (by decide +kernel), List.mem_of_getElem? (i := 12) (by decide +kernel)⟩
theorem xV_objInit (o : Nat) (ho : pc + 3 = o) {a idx : Nat} (hd : decode J.1 pc = .ok (.invokespecial idx, 3)) (hw : Cond.methodLink J.2.2.1 idx Lib.objectInit ∈ wsL_law0) (hr : (st.map fun v => v.category).sum ≤ 8) (hdp : 1 ≤ J.2.2.2.1) (kk : xV J X n k h o L st) : xV J X n k h pc L (.ref a :: st) := by
  subst ho
  obtain ⟨⟨p, l, e, s, m⟩, ⟨args, below, meth, c⟩, ⟨dC, dI, aC⟩, r, A, Q⟩ := X
  intro S hK hA H locs ls hP hD hS hl
  refine W.objInit S.1 S.2.1 S.2.2.2.1 (S.2.2.2.2 _ hw) (S.2.2.2.2 _ xm_obj.1) (S.2.2.2.2 _ xm_obj.2) (g := F0 m pc ls ((Value.ref a :: st).map (xv r))) rfl (hl.1.trans S.2.2.1.symm) (a := r a) (rest := st.map (xv r)) rfl hd hdp ?_ (kk S hK hA H locs ls hP hD hS hl)
  have h8 := xCats (r := r) hr
  show 2 * 0 + ((st.map (xv r)).map fun v => v.category).sum + 12 ≤ 41 * J.2.2.2.1 + 32
  omega
theorem xV_putF (o : Nat) (ho : pc + 3 = o) {a idx ci f N : Nat} {fs : List Value} {v : Value} {h' h9 : xHp} (hX : xIsN J X N h9) (hd : decode J.1 pc = .ok (.putfield idx, 3)) (hw : xFl J.2.2.1 idx ci f) (hc : h[a]? = some (.inr (ci, fs))) (hfin : ∀ q : vw_C, vwCl[ci]? = some q → (q.2.1 f).2.2.2 = true ∧ (q.2.1 f).1 = J.2.2.1) (hn : ∀ r, narrow (xTy ci f) (xv r v) = xv r v) (hfit : ∀ r, fits (xTy ci f) (xv r v) = true) (hl : f < fs.length) (hh : h.set a (.inr (ci, fs.set f v)) = h') (kk : xV J X n k h' o L st) : xV J X n k h pc L (v :: .ref a :: st) := by
  subst ho
  obtain ⟨⟨p, l, e, s, m⟩, ⟨args, below, meth, c⟩, ⟨dC, dI, aC⟩, r, A, Q⟩ := X
  intro S hK hA H locs ls hP hD hS hl2
  subst hh
  obtain ⟨r0, -, -, -, -, hin⟩ := hX
  obtain ⟨⟨C, T, N⟩, hq, hk, hm⟩ := hw
  have h3 := xIn hq
  refine va_putF S.1 S.2.1 S.2.2.2.2 h3.1 (xTy ci) h3.2.1 h3.2.2 S.2.2.2.1 hK.1 hP hD hS a (xH_at hc) hq f hk (S.2.2.2.2 _ hm) (fun _ z => z) (hfin _ hq).1 hin (hfin _ hq).2 (h3.2.1 f hk) (hn r) (hfit r) (by rw [List.length_map]; exact hl) hd (fun H1 locs1 hP1 hD1 hS1 => ?_)
  have e1 : (xH aC r h).set a (r a, .inr (ci, (fs.map (xv r)).set f (xv r v))) = xH aC r (h.set a (.inr (ci, fs.set f v))) := by
    rw [← List.map_set]
    exact xH_set (c := .inr (ci, fs.set f v))
  rw [e1] at hP1 hD1
  exact kk S hK hA H1 locs1 ls hP1 hD1 hS1 hl2
/-- more cells behind: another r -/
theorem xGrow {aC : Nat → ClassId} {r r' : Nat → Nat} {h : xHp} {c : xE} {q : Nat} {e : va_E} (hr : ∀ j, j < h.length → r' j = r j) (hr0 : r' h.length = q) (hsc : xScH h.length h) (he : xc aC (xe r' c) = e) : xH aC r' (h ++ [c]) = xH aC r h ++ [(q, e)] := by
  rw [← xH_cong (aC := aC) hr hsc]
  unfold xH
  rw [List.mapIdx_append]
  congr 1
  show [(r' (0 + h.length), xc aC (xe r' c))] = _
  rw [Nat.zero_add, hr0, he]
theorem xV_newN (o : Nat) (ho : pc + 3 = o) {idx ci : Nat} {q : vw_C} {fs : List Value} (hd : decode J.1 pc = .ok (.new idx, 3)) (hci : vwCl[ci]? = some q) (hw : Cond.classLink J.2.2.1 idx q.1 ∈ wsL_law0 ∧ Cond.instantiable q.1 q.2.2 ∈ wsL_law0 ∧ Cond.initialized q.1 ∈ wsL_law0) (hx : ∀ r, fs.map (xv r) = fs) (hfs : ∀ j, j < q.2.2 → defaultValue (xTy ci j) = vp_V fs j) (hcells : n + 1 ≤ J.2.2.2.2.1) (hslots : k + q.2.2 ≤ J.2.2.2.2.2) (hsc : xScH h.length h) (hL : ∀ q ∈ L, xScV h.length q.2) (hst : ∀ v ∈ st, xScV h.length v)
    (kk : ∀ r' : Nat → Nat, (∀ j, j < h.length → r' j = X.2.2.2.1 j) → xV J (xsetr X r') (n + 1) (k + q.2.2) (h ++ [.inr (ci, fs)]) o L (.ref h.length :: st)) : xV J X n k h pc L st := by
  subst ho
  obtain ⟨⟨p, l, e, s, m⟩, ⟨args, below, meth, c⟩, ⟨dC, dI, aC⟩, r, A, Q⟩ := X
  intro S hK hA H locs ls hP hD hS hl
  obtain ⟨C, T, N⟩ := q
  have h3 := xIn hci
  refine va_new S.1 S.2.1 S.2.2.2.2 h3.1 (xTy ci) h3.2.1 S.2.2.2.1 (S.2.2.2.2 _ hw.1) (S.2.2.2.2 _ hw.2.1) (S.2.2.2.2 _ hw.2.2) hK.1 hP hD hS hA hci hfs hcells hslots hd (fun q H1 hP1 hD1 hS1 => ?_)
  have hr : ∀ j, j < h.length → (fun j => if j = h.length then q else r j) j = r j := fun j hj => if_neg (by omega)
  have hr0 : (fun j => if j = h.length then q else r j) h.length = q := if_pos rfl
  generalize (fun j => if j = h.length then q else r j) = r' at hr hr0
  have e1 := xGrow (aC := aC) (c := .inr (ci, fs)) (q := q) (e := .inr (ci, fs)) hr hr0 hsc (by show (Sum.inr (ci, fs.map (xv r')) : va_E) = _; rw [hx])
  have e2 : xL r' L = xL r L := List.map_congr_left (fun q hq => by rw [xv_cong hr (hL q hq)])
  have e3 : (Value.ref h.length :: st).map (xv r') = .ref q :: st.map (xv r) := by
    show Value.ref (r' h.length) :: st.map (xv r') = _
    rw [hr0, List.map_congr_left (fun v hv => xv_cong hr (hst v hv))]
  have K := kk r' hr S hK hA H1 locs ls (by rw [e1]; exact hP1) (by rw [e1]; exact hD1) hS1 (by rw [e2]; exact hl)
  rw [e3] at K
  exact K
theorem xV_newaN (o : Nat) (ho : pc + 2 = o) {atype : ArrayType} {x : Int32} {N kd : Nat} {ty : FieldType} {a0 : xAr} (hd : decode J.1 pc = .ok (.newarray atype, 2)) (hw : Cond.arrayClass (newarray.typeOf atype) ∈ wsL_law0) (hty : newarray.typeOf atype = ty) (hkd : xKs[kd]? = some ty) (ha : ∀ cA : ClassId, vp_cell cA (xca a0) = arrV cA N (fun _ => defaultValue ty)) (hx : ∀ r, xa r a0 = a0) (hn : ¬ x < 0) (hN : x.toNatClampNeg = N) (hbytes : N * componentBytes ty ≤ 536870912) (hcells : n + 1 ≤ J.2.2.2.2.1) (hslots : k + N ≤ J.2.2.2.2.2) (hsc : xScH h.length h) (hL : ∀ q ∈ L, xScV h.length q.2) (hst : ∀ v ∈ st, xScV h.length v)
    (kk : ∀ r' : Nat → Nat, (∀ j, j < h.length → r' j = X.2.2.2.1 j) → xV J (xsetr X r') (n + 1) (k + N) (h ++ [.inl (kd, a0)]) o L (.ref h.length :: st)) : xV J X n k h pc L (.int x :: st) := by
  subst ho
  obtain ⟨⟨p, l, e, s, m⟩, ⟨args, below, meth, c⟩, ⟨dC, dI, aC⟩, r, A, Q⟩ := X
  intro S hK hA H locs ls hP hD hS hl
  refine va_newa S.1 S.2.1 (S.2.2.2.2 _ hw) hty hK.1 hP hD hS hA ha hn hN hbytes hcells hslots hd (fun q cA H1 hK1 hP1 hD1 hS1 => ?_)
  have hcA : cA = aC kd := by
    have h1 := xRA (hK.1.2 kd _ (xT_at hkd)).2
    have h2 := xRA (hK1.2 (xT aC).length (cA, ty) (by rw [List.getElem?_append_right (Nat.le_refl _), Nat.sub_self]; rfl)).2
    exact Option.some.inj (h2.symm.trans h1)
  subst hcA
  have hr : ∀ j, j < h.length → (fun j => if j = h.length then q else r j) j = r j := fun j hj => if_neg (by omega)
  have hr0 : (fun j => if j = h.length then q else r j) h.length = q := if_pos rfl
  generalize (fun j => if j = h.length then q else r j) = r' at hr hr0
  have e1 := xGrow (aC := aC) (c := .inl (kd, a0)) (q := q) (e := .inl (aC kd, xca a0)) hr hr0 hsc (by show (Sum.inl (aC kd, xca (xa r' a0)) : va_E) = _; rw [hx])
  have e2 : xL r' L = xL r L := List.map_congr_left (fun q hq => by rw [xv_cong hr (hL q hq)])
  have e3 : (Value.ref h.length :: st).map (xv r') = .ref q :: st.map (xv r) := by
    show Value.ref (r' h.length) :: st.map (xv r') = _
    rw [hr0, List.map_congr_left (fun v hv => xv_cong hr (hst v hv))]
  have K := kk r' hr S hK hA H1 locs ls (by rw [e1]; exact hP1) (by rw [e1]; exact hD1) hS1 (by rw [e2]; exact hl)
  rw [e3] at K
  exact K
theorem xV_newqN (o : Nat) (ho : pc + 3 = o) {idx : Nat} {x : Int32} {N kd : Nat} {C : String} (hd : decode J.1 pc = .ok (.anewarray idx, 3)) (hw : Cond.classLink J.2.2.1 idx C ∈ wsL_law0) (hov : ∀ A U H, xZ A U H → va_AO C U) (hkd : xKs[kd]? = some (.object C)) (hn : ¬ x < 0) (hN : x.toNatClampNeg = N) (hbytes : N * 4 ≤ 536870912) (hcells : n + 1 ≤ J.2.2.2.2.1) (hslots : k + N ≤ J.2.2.2.2.2) (hsc : xScH h.length h) (hL : ∀ q ∈ L, xScV h.length q.2) (hst : ∀ v ∈ st, xScV h.length v)
    (kk : ∀ r' : Nat → Nat, (∀ j, j < h.length → r' j = X.2.2.2.1 j) → xV J (xsetr X r') (n + 1) (k + N) (h ++ [.inl (kd, N, .inr (.inr []))]) o L (.ref h.length :: st)) : xV J X n k h pc L (.int x :: st) := by
  subst ho
  obtain ⟨⟨p, l, e, s, m⟩, ⟨args, below, meth, c⟩, ⟨dC, dI, aC⟩, r, A, Q⟩ := X
  intro S hK hA H locs ls hP hD hS hl
  refine va_newq S.1 S.2.1 S.2.2.2.1 (S.2.2.2.2 _ hw) (hov _ _ _ hK.2.2) hK.1 hP hD hS hA hn hN hbytes hcells hslots hd (fun q cA H1 hK1 hP1 hD1 hS1 => ?_)
  have hcA : cA = aC kd := by
    have h1 := xRA (hK.1.2 kd _ (xT_at hkd)).2
    have h2 := xRA (hK1.2 (xT aC).length (cA, .object C) (by rw [List.getElem?_append_right (Nat.le_refl _), Nat.sub_self]; rfl)).2
    exact Option.some.inj (h2.symm.trans h1)
  subst hcA
  have hr : ∀ j, j < h.length → (fun j => if j = h.length then q else r j) j = r j := fun j hj => if_neg (by omega)
  have hr0 : (fun j => if j = h.length then q else r j) h.length = q := if_pos rfl
  generalize (fun j => if j = h.length then q else r j) = r' at hr hr0
  have e1 := xGrow (aC := aC) (c := .inl (kd, N, .inr (.inr []))) (q := q) (e := .inl (aC kd, N, .inr (.inr (.inr (.inr (fun _ => none)))))) hr hr0 hsc (by
    show (Sum.inl (aC kd, N, .inr (.inr (.inr (.inr (fun j => ([] : List Nat)[j]?))))) : va_E) = _
    rw [show (fun j => ([] : List Nat)[j]?) = (fun _ => none) from funext (fun j => List.getElem?_nil)])
  have e2 : xL r' L = xL r L := List.map_congr_left (fun q hq => by rw [xv_cong hr (hL q hq)])
  have e3 : (Value.ref h.length :: st).map (xv r') = .ref q :: st.map (xv r) := by
    show Value.ref (r' h.length) :: st.map (xv r') = _
    rw [hr0, List.map_congr_left (fun v hv => xv_cong hr (hst v hv))]
  have K := kk r' hr S hK hA H1 locs ls (by rw [e1]; exact hP1) (by rw [e1]; exact hD1) hS1 (by rw [e2]; exact hl)
  rw [e3] at K
  exact K
/-- a reference stored behind those that are there -/
theorem xV_astqN (o : Nat) (ho : pc + 1 = o) {a b z kd ci : Nat} {q : vw_C} {i : Int32} {lst : List Nat} {vs : List Value} {h' : xHp} (hd : decode J.1 pc = .ok (.aastore, 1)) (hc : h[a]? = some (.inl (kd, z, .inr (.inr lst)))) (hb : h[b]? = some (.inr (ci, vs))) (hci : vwCl[ci]? = some q) (hkd : xKs[kd]? = some (.object q.1)) (hin : vp_in i z) (hi : i.toNatClampNeg = lst.length) (hh : h.set a (.inl (kd, z, .inr (.inr (lst ++ [b])))) = h') (kk : xV J X n k h' o L st) : xV J X n k h pc L (.ref b :: .int i :: .ref a :: st) := by
  subst ho
  obtain ⟨⟨p, l, e, s, m⟩, ⟨args, below, meth, c⟩, ⟨dC, dI, aC⟩, r, A, Q⟩ := X
  intro S hK hA H locs ls hP hD hS hl
  subst hh
  refine va_astq S.1 S.2.1 hK.1 hP hD hS a kd b ci (xH_at hc) (xT_at hkd) (xH_at hb) hci hin hd (fun H1 locs1 hP1 hD1 hS1 => ?_)
  have e0 : va_up (fun j => (lst.map r)[j]?) i.toNatClampNeg (some (r b)) = fun j => ((lst ++ [b]).map r)[j]? := by
    funext j
    unfold va_up
    rw [hi, List.map_append]
    by_cases hj : j = lst.length
    · rw [if_pos hj, hj, List.getElem?_append_right (by rw [List.length_map]; exact Nat.le_refl _), List.length_map, Nat.sub_self]
      rfl
    · rw [if_neg hj]
      by_cases hl2 : j < lst.length
      · rw [List.getElem?_append_left (by rw [List.length_map]; exact hl2)]
      · have g1 : (lst.map r)[j]? = none := List.getElem?_eq_none (by rw [List.length_map]; omega)
        have g2 : (lst.map r ++ [b].map r)[j]? = none := List.getElem?_eq_none (by rw [List.length_append, List.length_map]; show lst.length + 1 ≤ j; omega)
        exact g1.trans g2.symm
  have e1 : (xH aC r h).set a (r a, .inl (aC kd, z, .inr (.inr (.inr (.inr (va_up (fun j => (lst.map r)[j]?) i.toNatClampNeg (some (r b)))))))) = xH aC r (h.set a (.inl (kd, z, .inr (.inr (lst ++ [b]))))) := by
    rw [e0]
    exact xH_set (c := (.inl (kd, z, .inr (.inr (lst ++ [b])))))
  have hP2 : va_P (dC, dI) vwCl ((xH aC r h).set a (r a, .inl (aC kd, z, .inr (.inr (.inr (.inr (va_up (fun j => (lst.map r)[j]?) i.toNatClampNeg (some (r b))))))))) H1 := hP1
  have hD2 : va_D A ((xH aC r h).set a (r a, .inl (aC kd, z, .inr (.inr (.inr (.inr (va_up (fun j => (lst.map r)[j]?) i.toNatClampNeg (some (r b))))))))) := hD1
  rw [e1] at hP2 hD2
  exact kk S hK hA H1 locs1 ls hP2 hD2 hS1 hl
theorem xmapIdx_rep {α β : Type} (f : Nat → α → β) (c : α) (N : Nat) : (List.replicate N c).mapIdx f = (List.range N).map (fun i => f i c) := by
  apply List.ext_getElem?
  intro i
  rw [List.getElem?_mapIdx, List.getElem?_map]
  by_cases hi : i < N
  · rw [List.getElem?_replicate_of_lt hi, List.getElem?_range hi]; rfl
  · rw [List.getElem?_eq_none (by rw [List.length_replicate]; omega), List.getElem?_eq_none (by rw [List.length_range]; omega)]; rfl
/-- new T[N][M] -/
theorem xV_mnaN (o : Nat) (ho : pc + 4 = o) {idx : Nat} {x y : Int32} {N M kd kd0 : Nat} {ty : FieldType} {a0 : xAr} (hd : decode J.1 pc = .ok (.multianewarray idx 2, 4)) (hw : Cond.classLink J.2.2.1 idx ("[" ++ (FieldType.array ty).toString) ∈ wsL_law0) (hwa : Cond.arrayClass ty ∈ wsL_law0) (hov : ∀ A U H, xZ A U H → va_AOA ty U) (hkd : xKs[kd]? = some (.array ty)) (hkd0 : xKs[kd0]? = some ty) (hts : (FieldType.array ty).toString = "[" ++ ty.toString) (hn : ¬ x < 0) (hm : ¬ y < 0) (hN : x.toNatClampNeg = N) (hM : y.toNatClampNeg = M)
    (hb1 : N * 4 ≤ 536870912) (hb2 : M * componentBytes ty ≤ 536870912) (hb3 : M ≤ 536870912) (hdf : fits ty (defaultValue ty) = true) (hdd : (defaultValue ty).isDefault = true) (hcells : n + (1 + N) ≤ J.2.2.2.2.1) (hslots : k + (N + N * M) ≤ J.2.2.2.2.2) (ha : ∀ c : ClassId, Jvm.Free.Multi.innerC c M (defaultValue ty) = vp_cell c (xca a0)) (hx : ∀ r, xa r a0 = a0) (hsc : xScH h.length h) (hL : ∀ q ∈ L, xScV h.length q.2) (hst : ∀ v ∈ st, xScV h.length v)
    (kk : ∀ r' : Nat → Nat, (∀ j, j < h.length → r' j = X.2.2.2.1 j) → xV J (xsetr X r') (n + 1 + N) (k + N + N * M) (h ++ (.inl (kd, N, .inr (.inr ((List.range N).map (fun i => h.length + 1 + i)))) :: List.replicate N (.inl (kd0, a0)))) o L (.ref h.length :: st)) : xV J X n k h pc L (.int y :: .int x :: st) := by
  subst ho
  obtain ⟨⟨p, l, e, s, m⟩, ⟨args, below, meth, c⟩, ⟨dC, dI, aC⟩, r, A, Q⟩ := X
  intro S hK hA H locs ls hP hD hS hl
  have hcy : s.vm.findClass (FieldType.array ty).toString = some (aC kd0) := by
    rw [hts]
    exact xRA (hK.1.2 kd0 _ (xT_at hkd0)).2
  have hpl : xH aC r h ++ va_pl [] (fun _ => .inr (0, [])) = xH aC r h := List.append_nil _
  refine va_mna (X := xH aC r h) (L := []) (f := fun _ => .inr (0, [])) S.1 S.2.1 S.2.2.2.1 (S.2.2.2.2 _ hw) (hov _ _ _ hK.2.2) (S.2.2.2.2 _ hwa) hcy hK.1 (by rw [hpl]; exact hP) (by rw [hpl]; exact hD) hS hA hn hm hN hM hb1 hb2 hb3 hdf hdd hcells hslots ha hd (fun q r1 cA H1 hinj hnl hK1 hP1 hD1 hS1 => ?_)
  have hcA : cA = aC kd := by
    have h1 := xRA (hK.1.2 kd _ (xT_at hkd)).2
    have h2 := xRA (hK1.2 (xT aC).length (cA, .array ty) (by rw [List.getElem?_append_right (Nat.le_refl _), Nat.sub_self]; rfl)).2
    exact Option.some.inj (h2.symm.trans h1)
  subst hcA
  obtain ⟨r', hr, hr0, hr1⟩ : ∃ r' : Nat → Nat, (∀ j, j < h.length → r' j = r j) ∧ r' h.length = q ∧ ∀ i, r' (h.length + 1 + i) = r1 i := ⟨fun j => if j < h.length then r j else if j = h.length then q else r1 (j - h.length - 1), fun j hj => if_pos hj, by simp, fun i => by
    show (if h.length + 1 + i < h.length then r (h.length + 1 + i) else if h.length + 1 + i = h.length then q else r1 (h.length + 1 + i - h.length - 1)) = _
    rw [if_neg (by omega), if_neg (by omega)]
    congr 1
    omega⟩
  have e0 : (fun j => (((List.range N).map (fun i => h.length + 1 + i)).map r')[j]?) = fun i => if i < N then some (r1 i) else none := by
    funext j
    rw [List.map_map, List.getElem?_map]
    by_cases hj : j < N
    · rw [List.getElem?_range hj, if_pos hj]
      show some (r' (h.length + 1 + j)) = _
      rw [hr1]
    · rw [if_neg hj, List.getElem?_eq_none (by rw [List.length_range]; omega)]
      rfl
  have e1 : xH aC r' (h ++ (.inl (kd, N, .inr (.inr ((List.range N).map (fun i => h.length + 1 + i)))) :: List.replicate N (.inl (kd0, a0)))) = (xH aC r h ++ [(q, .inl (aC kd, N, .inr (.inr (.inr (.inr (fun i => if i < N then some (r1 i) else none))))))]) ++ va_pl ([] ++ (List.range N).map r1) (vr_up (fun _ => .inr (0, [])) ((List.range N).map r1) (.inl (aC kd0, xca a0))) := by
    rw [← xH_cong (aC := aC) hr hsc]
    have e4 : va_pl ([] ++ (List.range N).map r1) (vr_up (fun _ => .inr (0, [])) ((List.range N).map r1) (.inl (aC kd0, xca a0))) = (List.range N).map (fun i => (r1 i, (.inl (aC kd0, xca a0) : va_E))) := by
      rw [List.nil_append]
      unfold va_pl
      rw [List.map_map]
      apply List.map_congr_left
      intro i hi
      show (r1 i, vr_up (fun _ => (.inr (0, []) : va_E)) ((List.range N).map r1) (.inl (aC kd0, xca a0) : va_E) (r1 i)) = _
      rw [vr_up_in (List.mem_map.mpr ⟨i, hi, rfl⟩)]
    rw [e4]
    unfold xH
    rw [List.mapIdx_append, List.mapIdx_cons, xmapIdx_rep, List.append_assoc]
    congr 1
    show (r' (0 + h.length), (Sum.inl (aC kd, N, .inr (.inr (.inr (.inr (fun j => (((List.range N).map (fun i => h.length + 1 + i)).map r')[j]?))))) : va_E)) :: _ = _
    rw [e0, Nat.zero_add, hr0]
    show _ :: _ = _ :: _
    congr 1
    apply List.map_congr_left
    intro i _
    show (r' (i + 1 + h.length), (Sum.inl (aC kd0, xca (xa r' a0)) : va_E)) = _
    rw [hx, show i + 1 + h.length = h.length + 1 + i by omega, hr1]
  have e2 : xL r' L = xL r L := List.map_congr_left (fun q hq => by rw [xv_cong hr (hL q hq)])
  have e3 : (Value.ref h.length :: st).map (xv r') = .ref q :: st.map (xv r) := by
    show Value.ref (r' h.length) :: st.map (xv r') = _
    rw [hr0, List.map_congr_left (fun v hv => xv_cong hr (hst v hv))]
  have K := kk r' hr S hK hA H1 locs ls (by rw [e1]; exact hP1) (by rw [e1]; exact hD1) hS1 (by rw [e2]; exact hl)
  rw [e3] at K
  exact K
end XN
/-- behind a constructor: the last cell made, with what is behind it -/
theorem xMade {J Jc : xJ} {n k : Nat} {h0 hl' : xHp} {c0 : xE} {pc : Nat} {L : List (Nat × Value)} {rest : List Value} {p : Program} {l : Launch} {e : Env} {s : State} {m : MethodId} {args : Array Value} {below : List Frame} {meth : Method} {c : Code} {dC : Nat → ClassId} {dI : Nat → Nat → Nat} {aC : Nat → ClassId} {r : Nat → Nat} {A : Nat → Prop} {Q : State → Prop} {H : Heap} {locs : List Loc} {ls : Array Slot} {st0 a : _}
    (S : CallFix p m c J.1 J.2.1 s args wsL_law0 J.2.2.1) (hK : xKK dC dI aC A s s.heap) (hA : ∀ q : Nat, s.heap.size ≤ q → A q) (hP : va_P (dC, dI) vwCl (xH aC r (h0 ++ [c0])) H) (hD : va_D A (xH aC r (h0 ++ [c0]))) (hS : va_S A s.heap H locs) (hll : lv_has ls J.2.1 (xL r L))
    (hsc : xScH (h0.length + 1) h0) (hL : ∀ q ∈ L, xScV (h0.length + 1) q.2) (hst : ∀ v ∈ rest, xScV (h0.length + 1) v)
    (hr : va_Run p l e (xR J.2.2.2.1 J.2.2.2.2.1 J.2.2.2.2.2) s m args below meth c H locs n k Jc.2.2.2.2.1 Jc.2.2.2.2.2 (F0 m pc ls st0) (rest.map (xv r)) (xQN dC dI aC (fun j => r (h0.length + j)) 1 hl' (va_A (xH aC (fun j => r (h0.length + j)) [c0]) H.size) a) (va_A (xH aC (fun j => r (h0.length + j)) [c0]) H.size))
    (kk : ∀ r' : Nat → Nat, (∀ j, j < h0.length + 1 → r' j = r j) → xV J ((p, l, e, s, m), (args, below, meth, c), (dC, dI, aC), r', A, Q) (n + Jc.2.2.2.2.1) (k + Jc.2.2.2.2.2) (h0 ++ hl'.map (xe (fun j => h0.length + j))) (pc + 3) L rest) : W p l e (xR J.2.2.2.1 J.2.2.2.2.1 J.2.2.2.2.2) s m args below meth c H locs n k Q (F0 m pc ls st0) := by
  have hlast : (h0 ++ [c0])[h0.length]? = some c0 := by rw [List.getElem?_append_right (Nat.le_refl _), Nat.sub_self]; rfl
  have hold : ∀ (i : Nat) (d : xE), h0[i]? = some d → (h0 ++ [c0])[i]? = some d := fun i d hd => by rw [List.getElem?_append_left (List.getElem?_eq_some_iff.mp hd).1]; exact hd
  have hAc : ∀ q, va_A (xH aC (fun j => r (h0.length + j)) [c0]) H.size q → q = r h0.length ∨ H.size ≤ q := by
    rintro q (⟨j, e, he⟩ | he)
    · obtain ⟨c2, hc2, e2⟩ := xH_some he
      have hj : j < 1 := (List.getElem?_eq_some_iff.mp hc2).1
      have e3 : q = r (h0.length + j) := congrArg Prod.fst e2
      rw [show j = 0 by omega] at e3
      exact Or.inl e3
    · exact Or.inr he
  have hAl : A (r h0.length) := hD.2 _ _ (xH_at (aC := aC) (r := r) hlast)
  have hF : ∀ q, va_A (xH aC (fun j => r (h0.length + j)) [c0]) H.size q → A q := fun q hq => by
    rcases hAc q hq with rfl | h
    · exact hAl
    · exact hA q (Nat.le_trans hS.1 h)
  intro T hT XX
  obtain ⟨v, st₀, t, T', L2, h00, X', hL2, e1, e2, ⟨⟨r2, hr2, hv, hP1, hD1⟩, hz, hk2⟩, stp⟩ := hr T hT XX
  cases hv
  rw [h00] at hz hk2
  rw [← e1] at hP1 hz hk2
  have h20 : r2 0 = r h0.length := hr2 0 (by omega)
  obtain ⟨r', hr', hr1⟩ : ∃ r' : Nat → Nat, (∀ j, j < h0.length + 1 → r' j = r j) ∧ ∀ j, r' (h0.length + j) = r2 j := ⟨fun j => if j < h0.length then r j else r2 (j - h0.length), fun j hj => by
      show (if j < h0.length then r j else r2 (j - h0.length)) = r j
      by_cases h9 : j < h0.length
      · rw [if_pos h9]
      · rw [if_neg h9, show j = h0.length by omega, Nat.sub_self, h20], fun j => by
      show (if h0.length + j < h0.length then r (h0.length + j) else r2 (h0.length + j - h0.length)) = r2 j
      rw [if_neg (by omega), show h0.length + j - h0.length = j by omega]⟩
  have hcomp : (fun j => r' (h0.length + j)) = r2 := funext hr1
  have hnew : ∀ (i : Nat) (d : xE), (h0 ++ hl'.map (xe (fun j => h0.length + j)))[i]? = some d → (i < h0.length ∧ h0[i]? = some d) ∨ ∃ j d', i = h0.length + j ∧ hl'[j]? = some d' ∧ d = xe (fun j => h0.length + j) d' := by
    intro i d hd
    by_cases hi : i < h0.length
    · rw [List.getElem?_append_left hi] at hd
      exact Or.inl ⟨hi, hd⟩
    · rw [List.getElem?_append_right (by omega), List.getElem?_map] at hd
      cases hj : hl'[i - h0.length]? with
      | none => rw [hj] at hd; cases hd
      | some d' => rw [hj] at hd; exact Or.inr ⟨i - h0.length, d', by omega, hj, (Option.some.inj hd).symm⟩
  have hlow : ∀ (i : Nat) (d : xE), h0[i]? = some d → r i < H.size ∧ ¬ va_A (xH aC (fun j => r (h0.length + j)) [c0]) H.size (r i) := by
    intro i d hd
    have h1 := (hP i _ (xH_at (hold i d hd))).lt
    have hi : i < h0.length := (List.getElem?_eq_some_iff.mp hd).1
    refine ⟨h1, fun hq => ?_⟩
    rcases hAc _ hq with h2 | h2
    · have := hD.1 i h0.length _ _ (xH_at (aC := aC) (r := r) (hold i d hd)) (xH_at (aC := aC) (r := r) hlast) h2
      omega
    · have h3 : r i < H.size := h1
      omega
  have hP2 : va_P (dC, dI) vwCl (xH aC r' (h0 ++ hl'.map (xe (fun j => h0.length + j)))) T'.heap := by
    intro i q hq
    obtain ⟨d, hd, rfl⟩ := xH_some hq
    rcases hnew i d hd with ⟨hi, hd0⟩ | ⟨j, d', rfl, hd', rfl⟩
    · have h1 := hP i _ (xH_at (hold i d hd0))
      rw [hr' i (by omega), xe_cong hr' (hsc.2 d (List.mem_of_getElem? hd0))]
      exact h1.kept (hk2 _ (hlow i d hd0).1 (hlow i d hd0).2)
    · have h9 := hP1 j _ (xH_at hd')
      rw [xe_xe, hcomp, hr1]
      exact h9
  have hD2 : va_D A (xH aC r' (h0 ++ hl'.map (xe (fun j => h0.length + j)))) := by
    refine ⟨fun i i2 p q hp hq hpq => ?_, fun i q hq => ?_⟩
    · obtain ⟨d, hd, rfl⟩ := xH_some hp
      obtain ⟨d2, hd2, rfl⟩ := xH_some hq
      have hpq : r' i = r' i2 := hpq
      have cross : ∀ (i : Nat) (d : xE) (j : Nat) (d' : xE), h0[i]? = some d → hl'[j]? = some d' → r' i = r' (h0.length + j) → False := by
        intro i d j d' h1 h2 h3
        rw [hr' i (by have := (List.getElem?_eq_some_iff.mp h1).1; omega), hr1] at h3
        have h4 : va_A (xH aC (fun j => r (h0.length + j)) [c0]) H.size (r2 j) := hD1.2 j _ (xH_at (aC := aC) (r := r2) h2)
        rw [← h3] at h4
        exact (hlow i d h1).2 h4
      rcases hnew i d hd with ⟨hi, hd0⟩ | ⟨j, d', rfl, hd', rfl⟩
      · rcases hnew i2 d2 hd2 with ⟨hi2, hd02⟩ | ⟨j2, d2', rfl, hd2', rfl⟩
        · rw [hr' i (by omega), hr' i2 (by omega)] at hpq
          exact hD.1 i i2 _ _ (xH_at (aC := aC) (r := r) (hold i d hd0)) (xH_at (aC := aC) (r := r) (hold i2 d2 hd02)) hpq
        · exact (cross i d j2 d2' hd0 hd2' hpq).elim
      · rcases hnew i2 d2 hd2 with ⟨hi2, hd02⟩ | ⟨j2, d2', rfl, hd2', rfl⟩
        · exact (cross i2 d2 j d' hd02 hd' hpq.symm).elim
        · rw [hr1, hr1] at hpq
          have := hD1.1 j j2 _ _ (xH_at (aC := aC) (r := r2) hd') (xH_at (aC := aC) (r := r2) hd2') hpq
          omega
    · obtain ⟨d, hd, rfl⟩ := xH_some hq
      show A (r' i)
      rcases hnew i d hd with ⟨hi, hd0⟩ | ⟨j, d', rfl, hd', rfl⟩
      · rw [hr' i (by omega)]
        exact hD.2 i _ (xH_at (aC := aC) (r := r) (hold i d hd0))
      · rw [hr1]
        exact hF _ (hD1.2 j _ (xH_at (aC := aC) (r := r2) hd'))
  have hS2 : va_S A s.heap T'.heap (locs ++ L2) := ⟨Nat.le_trans hS.1 hz, fun q h1 h2 => by rw [hk2 q (Nat.lt_of_lt_of_le h1 hS.1) (fun z => h2 (hF q z))]; exact hS.2.1 q h1 h2, fun q hq => by
      rcases List.mem_append.mp hq with h | h
      · exact hS.2.2 q h
      · exact hF _ (hL2 q h)⟩
  have e5 : xL r' L = xL r L := List.map_congr_left (fun q hq => by rw [xv_cong hr' (hL q hq)])
  have e6 : rest.map (xv r') = rest.map (xv r) := List.map_congr_left (fun v hv => xv_cong hr' (hst v hv))
  obtain ⟨t2, a1, b1⟩ := kk r' hr' S hK hA T'.heap (locs ++ L2) ls hP2 hD2 hS2 (by rw [e5]; exact hll) T' rfl X'
  rw [e6] at a1
  exact ⟨t2, stp t2 a1, b1⟩
section XK
variable {J Jc : xJ} {X : xX} {n k : Nat} {h0 hl' : xHp} {c0 : xE} {pc : Nat} {L : List (Nat × Value)} {rest : List Value} {y : MethodName} {C : String} {idx : Nat} {l : Launch}
theorem xOneCut {h0 : xHp} {c0 : xE} (h1 : xe (fun j => h0.length + j) c0 = c0) : xSub (fun j => h0.length + j) [c0] (h0 ++ [c0]) := ⟨fun j c hc => by
    match j, hc with
    | 0, hc => cases hc; rw [h1]; show (h0 ++ [c0])[h0.length]? = some c0; rw [List.getElem?_append_right (Nat.le_refl _), Nat.sub_self]; rfl
    | j + 1, hc => simp at hc, fun i j hi hj _ => by simp at hi hj; omega⟩
/-- a constructor of a nest mate, private -/
theorem xV_ctorN (o : Nat) (ho : pc + 3 = o) (hd : decode J.1 pc = .ok (.invokespecial idx, 3)) (hl0 : X.1.2.1 = l) (hM : xCtN l y Jc c0 hl') (hw : xMd y C none Jc 0) (hyn : y.name = "<init>") (hv : Cond.instanceMethod y ∈ wsL_law0) (hlk : (J.2.2.1, idx, y) ∈ xNl) (hc0 : ∀ g, xe g c0 = c0) (hroom : (rest.map fun v => v.category).sum ≤ 8) (hdp : Jc.2.2.2.1 + 1 ≤ J.2.2.2.1) (hml : Jc.2.1 ≤ 21) (hf : n + Jc.2.2.2.2.1 ≤ J.2.2.2.2.1 ∧ k + Jc.2.2.2.2.2 ≤ J.2.2.2.2.2)
    (hsc : xScH (h0.length + 1) h0) (hL : ∀ q ∈ L, xScV (h0.length + 1) q.2) (hst : ∀ v ∈ rest, xScV (h0.length + 1) v)
    (kk : ∀ r' : Nat → Nat, (∀ j, j < h0.length + 1 → r' j = X.2.2.2.1 j) → xV J (xsetr X r') (n + Jc.2.2.2.2.1) (k + Jc.2.2.2.2.2) (h0 ++ hl'.map (xe (fun j => h0.length + j))) o L rest) : xV J X n k (h0 ++ [c0]) pc L (.ref h0.length :: rest) := by
  subst ho
  obtain ⟨⟨p, l, e, s, m⟩, ⟨args, below, meth, c⟩, ⟨dC, dI, aC⟩, r, A, Q⟩ := X
  intro S hK hA H locs ls hP hD hS hll
  subst hl0
  have hsub := xOneCut (h0 := h0) (hc0 _)
  obtain ⟨hPc, hDc⟩ := xCut hP hD hsub
  refine xMade (Jc := Jc) (a := [Value.ref (r h0.length)].toArray) S hK hA hP hD hS hll hsc hL hst ?_ kk
  refine va_runIN (As := []) (b := r h0.length) S (hM dC dI aC (fun j => r (h0.length + j)) H.size) ⟨va_cnB 0 S.2.2.2.2 (xGoodIn hw) rfl rfl rfl (hK.2.1 _ hlk) (S.2.2.2.2 _ (by rw [hw.2.2.1]; exact hw.2.1)) hw.2.2.2 ⟨hdp, ?_⟩, hyn, S.2.2.2.2 _ hv⟩ ⟨xBlind, fun U hU hW => ⟨rfl, by rw [hU], by rw [hU]; exact hPc, by rw [hU]; exact hK.call hS (xFree (dC := dC) (dI := dI) hsub hA hD hS) hW, hDc.weaken (fun _ _ _ _ => trivial)⟩⟩ rfl rfl hll.1 rfl (lv_room (xCats hroom)) hd hf
  show 8 + (Jc.2.1 + 11) + (41 * Jc.2.2.2.1 + 32) ≤ 41 * J.2.2.2.1 + 32
  omega
/-- a constructor that isn't private -/
theorem xV_ctor (o : Nat) (ho : pc + 3 = o) (hd : decode J.1 pc = .ok (.invokespecial idx, 3)) (hl0 : X.1.2.1 = l) (hM : xCtN l y Jc c0 hl') (hw : xMd y C none Jc 0) (hyn : y.name = "<init>") (hv : Cond.instanceMethod y ∈ wsL_law0) (hlk : Cond.methodLink J.2.2.1 idx y ∈ wsL_law0) (hc0 : ∀ g, xe g c0 = c0) (hroom : (rest.map fun v => v.category).sum ≤ 8) (hdp : Jc.2.2.2.1 + 1 ≤ J.2.2.2.1) (hml : Jc.2.1 ≤ 21) (hf : n + Jc.2.2.2.2.1 ≤ J.2.2.2.2.1 ∧ k + Jc.2.2.2.2.2 ≤ J.2.2.2.2.2)
    (hsc : xScH (h0.length + 1) h0) (hL : ∀ q ∈ L, xScV (h0.length + 1) q.2) (hst : ∀ v ∈ rest, xScV (h0.length + 1) v)
    (kk : ∀ r' : Nat → Nat, (∀ j, j < h0.length + 1 → r' j = X.2.2.2.1 j) → xV J (xsetr X r') (n + Jc.2.2.2.2.1) (k + Jc.2.2.2.2.2) (h0 ++ hl'.map (xe (fun j => h0.length + j))) o L rest) : xV J X n k (h0 ++ [c0]) pc L (.ref h0.length :: rest) := by
  subst ho
  obtain ⟨⟨p, l, e, s, m⟩, ⟨args, below, meth, c⟩, ⟨dC, dI, aC⟩, r, A, Q⟩ := X
  intro S hK hA H locs ls hP hD hS hll
  subst hl0
  have hsub := xOneCut (h0 := h0) (hc0 _)
  obtain ⟨hPc, hDc⟩ := xCut hP hD hsub
  refine xMade (Jc := Jc) (a := [Value.ref (r h0.length)].toArray) S hK hA hP hD hS hll hsc hL hst ?_ kk
  refine va_runI (As := []) (b := r h0.length) S (hM dC dI aC (fun j => r (h0.length + j)) H.size) (cwI 0 S.2.2.2.2 (xGoodIn hw) rfl rfl rfl (S.2.2.2.2 _ (by rw [hw.2.2.1]; exact hw.2.1)) (S.2.2.2.2 _ hlk) (S.2.2.2.2 _ hv) hyn hw.2.2.2 ⟨hdp, ?_⟩) ⟨xBlind, fun U hU hW => ⟨rfl, by rw [hU], by rw [hU]; exact hPc, by rw [hU]; exact hK.call hS (xFree (dC := dC) (dI := dI) hsub hA hD hS) hW, hDc.weaken (fun _ _ _ _ => trivial)⟩⟩ rfl rfl hll.1 rfl (lv_room (xCats hroom)) hd hf
  show 8 + (Jc.2.1 + 11) + (41 * Jc.2.2.2.1 + 32) ≤ 41 * J.2.2.2.1 + 32
  omega
end XK
theorem xSub_of {g : Nat → Nat} {hl h : xHp} (hn : xNd g hl.length = true) (e : xCutR g h 0 hl) : xSub g hl h := ⟨fun j c hc => by
    have := xCutR_at hl 0 e j c hc
    rw [Nat.zero_add] at this
    exact this, xNd_inj hn⟩
theorem xV_h {J : xJ} {X : xX} {n k : Nat} {h h' : xHp} {pc : Nat} {L : List (Nat × Value)} {st : List Value} (e : h = h') (kk : xV J X n k h' pc L st) : xV J X n k h pc L st := by
  subst e; exact kk
/-- the same, with the numbers written out -/
theorem xV_ctorN2 {J Jc : xJ} {X : xX} {n k : Nat} {h h0 hl' h' : xHp} {c0 : xE} {pc : Nat} {L : List (Nat × Value)} {rest : List Value} {y : MethodName} {C : String} {idx : Nat} {l : Launch} (o : Nat) (ho : pc + 3 = o) (n0 : Nat) (hn0 : h0.length = n0) (hd : decode J.1 pc = .ok (.invokespecial idx, 3)) (hl0 : X.1.2.1 = l) (hM : xCtN l y Jc c0 hl') (hw : xMd y C none Jc 0) (hyn : y.name = "<init>") (hv : Cond.instanceMethod y ∈ wsL_law0) (hlk : (J.2.2.1, idx, y) ∈ xNl) (hc0 : ∀ g, xe g c0 = c0) (hroom : (rest.map fun v => v.category).sum ≤ 8) (hdp : Jc.2.2.2.1 + 1 ≤ J.2.2.2.1) (hml : Jc.2.1 ≤ 21) (hf : n + Jc.2.2.2.2.1 ≤ J.2.2.2.2.1 ∧ k + Jc.2.2.2.2.2 ≤ J.2.2.2.2.2)
    (hsc : xScH (n0 + 1) h0) (hL : ∀ q ∈ L, xScV (n0 + 1) q.2) (hst : ∀ v ∈ rest, xScV (n0 + 1) v) (hcat : h0 ++ [c0] = h) (hh : h0 ++ hl'.map (xe (fun j => n0 + j)) = h')
    (kk : ∀ r' : Nat → Nat, (∀ j, j < n0 + 1 → r' j = X.2.2.2.1 j) → xV J (xsetr X r') (n + Jc.2.2.2.2.1) (k + Jc.2.2.2.2.2) h' o L rest) : xV J X n k h pc L (.ref n0 :: rest) := by
  subst hn0
  subst hcat
  subst hh
  exact xV_ctorN o ho hd hl0 hM hw hyn hv hlk hc0 hroom hdp hml hf hsc hL hst kk
theorem xV_ctor2 {J Jc : xJ} {X : xX} {n k : Nat} {h h0 hl' h' : xHp} {c0 : xE} {pc : Nat} {L : List (Nat × Value)} {rest : List Value} {y : MethodName} {C : String} {idx : Nat} {l : Launch} (o : Nat) (ho : pc + 3 = o) (n0 : Nat) (hn0 : h0.length = n0) (hd : decode J.1 pc = .ok (.invokespecial idx, 3)) (hl0 : X.1.2.1 = l) (hM : xCtN l y Jc c0 hl') (hw : xMd y C none Jc 0) (hyn : y.name = "<init>") (hv : Cond.instanceMethod y ∈ wsL_law0) (hlk : Cond.methodLink J.2.2.1 idx y ∈ wsL_law0) (hc0 : ∀ g, xe g c0 = c0) (hroom : (rest.map fun v => v.category).sum ≤ 8) (hdp : Jc.2.2.2.1 + 1 ≤ J.2.2.2.1) (hml : Jc.2.1 ≤ 21) (hf : n + Jc.2.2.2.2.1 ≤ J.2.2.2.2.1 ∧ k + Jc.2.2.2.2.2 ≤ J.2.2.2.2.2)
    (hsc : xScH (n0 + 1) h0) (hL : ∀ q ∈ L, xScV (n0 + 1) q.2) (hst : ∀ v ∈ rest, xScV (n0 + 1) v) (hcat : h0 ++ [c0] = h) (hh : h0 ++ hl'.map (xe (fun j => n0 + j)) = h')
    (kk : ∀ r' : Nat → Nat, (∀ j, j < n0 + 1 → r' j = X.2.2.2.1 j) → xV J (xsetr X r') (n + Jc.2.2.2.2.1) (k + Jc.2.2.2.2.2) h' o L rest) : xV J X n k h pc L (.ref n0 :: rest) := by
  subst hn0
  subst hcat
  subst hh
  exact xV_ctor o ho hd hl0 hM hw hyn hv hlk hc0 hroom hdp hml hf hsc hL hst kk
section XN2
variable {J : xJ} {X : xX} {n k : Nat} {h h' : xHp} {pc : Nat} {L : List (Nat × Value)} {st : List Value}
theorem xV_newN2 (n0 : Nat) (hn0 : h.length = n0) (o : Nat) (ho : pc + 3 = o) {idx ci : Nat} {q : vw_C} {fs : List Value} (hd : decode J.1 pc = .ok (.new idx, 3)) (hci : vwCl[ci]? = some q) (hw : Cond.classLink J.2.2.1 idx q.1 ∈ wsL_law0 ∧ Cond.instantiable q.1 q.2.2 ∈ wsL_law0 ∧ Cond.initialized q.1 ∈ wsL_law0) (hx : ∀ r, fs.map (xv r) = fs) (hfs : ∀ j, j < q.2.2 → defaultValue (xTy ci j) = vp_V fs j) (hcells : n + 1 ≤ J.2.2.2.2.1) (hslots : k + q.2.2 ≤ J.2.2.2.2.2) (hsc : h.all (xScEb n0) = true) (hL : ∀ q ∈ L, xScV n0 q.2) (hst : ∀ v ∈ st, xScV n0 v) (hh : h ++ [.inr (ci, fs)] = h')
    (kk : ∀ r' : Nat → Nat, (∀ j, j < n0 → r' j = X.2.2.2.1 j) → xV J (xsetr X r') (n + 1) (k + q.2.2) h' o L (.ref n0 :: st)) : xV J X n k h pc L st := by
  subst hn0
  subst hh
  exact xV_newN o ho hd hci hw hx hfs hcells hslots (xScH_of (Nat.le_refl _) hsc) hL hst kk
theorem xV_newaN2 (n0 : Nat) (hn0 : h.length = n0) (o : Nat) (ho : pc + 2 = o) {atype : ArrayType} {x : Int32} {N kd : Nat} {ty : FieldType} {a0 : xAr} (hd : decode J.1 pc = .ok (.newarray atype, 2)) (hw : Cond.arrayClass (newarray.typeOf atype) ∈ wsL_law0) (hty : newarray.typeOf atype = ty) (hkd : xKs[kd]? = some ty) (ha : ∀ cA : ClassId, vp_cell cA (xca a0) = arrV cA N (fun _ => defaultValue ty)) (hx : ∀ r, xa r a0 = a0) (hn : ¬ x < 0) (hN : x.toNatClampNeg = N) (hbytes : N * componentBytes ty ≤ 536870912) (hcells : n + 1 ≤ J.2.2.2.2.1) (hslots : k + N ≤ J.2.2.2.2.2) (hsc : h.all (xScEb n0) = true) (hL : ∀ q ∈ L, xScV n0 q.2) (hst : ∀ v ∈ st, xScV n0 v) (hh : h ++ [.inl (kd, a0)] = h')
    (kk : ∀ r' : Nat → Nat, (∀ j, j < n0 → r' j = X.2.2.2.1 j) → xV J (xsetr X r') (n + 1) (k + N) h' o L (.ref n0 :: st)) : xV J X n k h pc L (.int x :: st) := by
  subst hn0
  subst hh
  exact xV_newaN o ho hd hw hty hkd ha hx hn hN hbytes hcells hslots (xScH_of (Nat.le_refl _) hsc) hL hst kk
theorem xV_newqN2 (n0 : Nat) (hn0 : h.length = n0) (o : Nat) (ho : pc + 3 = o) {idx : Nat} {x : Int32} {N kd : Nat} {C : String} (hd : decode J.1 pc = .ok (.anewarray idx, 3)) (hw : Cond.classLink J.2.2.1 idx C ∈ wsL_law0) (hov : ∀ A U H, xZ A U H → va_AO C U) (hkd : xKs[kd]? = some (.object C)) (hn : ¬ x < 0) (hN : x.toNatClampNeg = N) (hbytes : N * 4 ≤ 536870912) (hcells : n + 1 ≤ J.2.2.2.2.1) (hslots : k + N ≤ J.2.2.2.2.2) (hsc : h.all (xScEb n0) = true) (hL : ∀ q ∈ L, xScV n0 q.2) (hst : ∀ v ∈ st, xScV n0 v) (hh : h ++ [.inl (kd, N, .inr (.inr []))] = h')
    (kk : ∀ r' : Nat → Nat, (∀ j, j < n0 → r' j = X.2.2.2.1 j) → xV J (xsetr X r') (n + 1) (k + N) h' o L (.ref n0 :: st)) : xV J X n k h pc L (.int x :: st) := by
  subst hn0
  subst hh
  exact xV_newqN o ho hd hw hov hkd hn hN hbytes hcells hslots (xScH_of (Nat.le_refl _) hsc) hL hst kk
end XN2
theorem xNew0 (N : Nat) : ∀ cA : ClassId, vp_cell cA (xca (N, .inl (fun _ => 0))) = arrV cA N (fun _ => defaultValue .int) := fun _ => rfl
theorem xNew1 (N : Nat) : ∀ cA : ClassId, vp_cell cA (xca (N, .inr (.inl (fun _ => 0)))) = arrV cA N (fun _ => defaultValue .long) := fun _ => rfl
theorem xNew2 (N : Nat) : ∀ cA : ClassId, vp_cell cA (xca (N, .inl (fun _ => 0))) = arrV cA N (fun _ => defaultValue .byte) := fun _ => rfl
theorem xNew3 (N : Nat) : ∀ cA : ClassId, vp_cell cA (xca (N, .inl (fun _ => 0))) = arrV cA N (fun _ => defaultValue .boolean) := fun _ => rfl
theorem xV_iaddc {J : xJ} {X : xX} {n k : Nat} {h : xHp} {pc : Nat} {L : List (Nat × Value)} {st : List Value} (o : Nat) (ho : pc + 1 = o) {x y w : Int32} (hd : decode J.1 pc = .ok (.iadd, 1)) (hw : x + y = w) (kk : xV J X n k h o L (.int w :: st)) : xV J X n k h pc L (.int y :: .int x :: st) := by
  subst hw
  exact xV_iadd o ho hd kk
