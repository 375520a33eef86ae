/-! ===== String constants: length and charAt ===== -/
def xStr (i : Nat) (a b : Nat) (A : Nat → Prop) (U : State) (H : Heap) : Prop := va_O "java/lang/String" a A U H ∧ va_OF "java/lang/String" "coder" "B" (.int 0) a A U H ∧ va_OF "java/lang/String" "value" "[B" (.ref b) a A U H ∧ va_T .byte b (xKl.getD i 0) (fun j => .int ((xKb.getD i []).getD j 0)) A U H
theorem xStr.call {i a b : Nat} {A A' : Nat → Prop} {s U : State} {H : Heap} {locs : List Loc} (h : xStr i a b A s s.heap) (hS : va_S A s.heap H locs) (hF : ∀ q, A' q → A q) (hW : s.WarmedH U.vm) : xStr i a b A' U H := by
  obtain ⟨h1, h2, h3, h4⟩ := h
  exact ⟨(va_O.moved hW.alike (h1.kept hS.2.1)).narrow hF, (va_OF.moved hW.alike (h2.kept hS.2.1)).narrow hF, (va_OF.moved hW.alike (h3.kept hS.2.1)).narrow hF, (va_T.moved hW.alike (h4.kept hS.2.1)).narrow hF⟩
theorem xStr.blind {i a b : Nat} {A : Nat → Prop} {U U' : State} {H : Heap} (h : xStr i a b A U H) (e : U.vm = U'.vm) : xStr i a b A U' H := by
  have ea : U.vm.Alike U'.vm := by rw [← e]; exact Vm.Alike.refl U.vm
  obtain ⟨h1, h2, h3, h4⟩ := h
  exact ⟨va_O.moved ea h1, va_OF.moved ea h2, va_OF.moved ea h3, va_T.moved ea h4⟩
/-- the places 1000 and 1001 are a String constant and its bytes -/
def xStrX (X : xX) (i : Nat) : Prop := match X with
  | ((p, l, e, s, m), (args, below, meth, c), (dC, dI, aC), r, A, Q) => xStr i (r 1000) (r 1001) A s s.heap
def xCtW (l : Launch) (y : MethodName) (ret : Option FieldType) (J : xJ) (av : List Value) (i : Nat) (h : xHp) (rv : Option Value) (h' : xHp) : Prop :=
  ∀ (dC : Nat → ClassId) (dI : Nat → Nat → Nat) (aC : Nat → ClassId) (r : Nat → Nat) (sz : Nat),
    Met l y (Cond.code y J.1 J.2.1 ret :: wsL_law0) (xR J.2.2.2.1 J.2.2.2.2.1 J.2.2.2.2.2)
      (va_Pc (av.map (xv r)) (fun U => U.heap.size = sz ∧ va_P (dC, dI) vwCl (xH aC r h) U.heap ∧ xKK dC dI aC (va_A (xH aC r h) sz) U U.heap ∧ va_D (fun _ => True) (xH aC r h) ∧ xStr i (r 1000) (r 1001) (va_A (xH aC r h) sz) U U.heap))
      (xQ dC dI aC r rv h' (va_A (xH aC r h) sz)) J.2.2.2.2.1 J.2.2.2.2.2 (va_A (xH aC r h) sz)
theorem xCtW_of {l : Launch} {y : MethodName} {ret : Option FieldType} {J : xJ} {av : List Value} {i : Nat} {h : xHp} {rv : Option Value} {h' : xHp} (hy : plainName y.cls = true) (hc : y.cls = J.2.2.1) (hn : (lg_sl av).length ≤ J.2.1)
    (body : ∀ X : xX, X.1.2.1 = l → xIs J X ret rv h' → xStrX X i → xV J X 0 0 h 0 (lv_args 0 av) []) : xCtW l y ret J av i h rv h' := by
  intro dC dI aC r sz
  refine Met.ofW (cc := J.1) (maxL := J.2.1) (ret := ret) hy rfl ?_
  intro p e s m args below meth c s₁ B hml hv
  obtain ⟨rfl, hsz, hP, hK, hD0, hT⟩ := hv
  have hts := atoms_spec (ws := Cond.code y J.1 J.2.1 ret :: wsL_law0) B.pre
  have hown : s.vm.findClass y.cls = some m.cls := findClass_of_methodNamed B.named
  subst hsz
  have hD := hD0.self (sz := s.heap.size)
  have hl := lv_entry (av.map (xv r)) (n := J.2.1) (by rw [xSl]; exact hn)
  rw [xArgs] at hl
  rw [lg_entry_eq]
  refine body ((p, l, e, s, m), ((av.map (xv r)).toArray, below, meth, c), (dC, dI, aC), r, va_A (xH aC r h) s.heap.size, MQ below (xQ dC dI aC r rv h' (va_A (xH aC r h) s.heap.size)) (av.map (xv r)).toArray s J.2.2.2.2.1 J.2.2.2.2.2 (va_A (xH aC r h) s.heap.size)) rfl ⟨rfl, B.returns, B.notSynchronized⟩ hT ⟨B.exec, B.bytes, hml, hc ▸ hown, fun w hw => hts w (List.mem_cons_of_mem _ hw)⟩ hK (fun q hq => Or.inr hq) s.heap [] _ hP hD va_S.rf hl
theorem xBlindW {av : List Value} {sz i : Nat} {dC : Nat → ClassId} {dI : Nat → Nat → Nat} {aC : Nat → ClassId} {r : Nat → Nat} {h : xHp} : FrameBlind (va_Pc (av.map (xv r)) (fun U => U.heap.size = sz ∧ va_P (dC, dI) vwCl (xH aC r h) U.heap ∧ xKK dC dI aC (va_A (xH aC r h) sz) U U.heap ∧ va_D (fun _ => True) (xH aC r h) ∧ xStr i (r 1000) (r 1001) (va_A (xH aC r h) sz) U U.heap)) := by
  intro a U g mk q
  obtain ⟨q0, q1, qP, qK, qD, qT⟩ := q
  exact ⟨q0, q1, qP, qK.blind rfl, qD, qT.blind rfl⟩
section XSTR
variable {J : xJ} {X : xX} {n k : Nat} {h : xHp} {pc : Nat} {L : List (Nat × Value)} {st : List Value} {i : Nat}
theorem xV_i2c (o : Nat) (ho : pc + 1 = o) {x : Int32} (hd : decode J.1 pc = .ok (.i2c, 1)) (kk : xV J X n k h o L (.int ((x.toUInt32 % 65536).toInt32) :: st)) : xV J X n k h pc L (.int x :: st) := by
  subst ho
  obtain ⟨⟨p, l, e, s, m⟩, ⟨args, below, meth, c⟩, ⟨dC, dI, aC⟩, r, A, Q⟩ := X
  intro S hK hA H locs ls hP hD hS hl
  exact lv_i2c S.1 S.2.1 hd rfl (kk S hK hA H locs ls hP hD hS hl)
theorem xV_sval (o : Nat) (ho : pc + 3 = o) {idx : Nat} (hT : xStrX X i) (hd : decode J.1 pc = .ok (.getfield idx, 3)) (hw : Cond.fieldLink J.2.2.1 idx "java/lang/String" "value" "[B" ∈ wsL_law0) (kk : xV J X n k h o L (.ref 1001 :: st)) : xV J X n k h pc L (.ref 1000 :: st) := by
  subst ho
  obtain ⟨⟨p, l, e, s, m⟩, ⟨args, below, meth, c⟩, ⟨dC, dI, aC⟩, r, A, Q⟩ := X
  intro S hK hA H locs ls hP hD hS hl
  exact vk_getf S.1 S.2.1 hT.2.2.1 hS S.2.2.2.1 (S.2.2.2.2 _ hw) (fun _ z => z) hd (kk S hK hA H locs ls hP hD hS hl)
theorem xV_scod (o : Nat) (ho : pc + 3 = o) {idx : Nat} (hT : xStrX X i) (hd : decode J.1 pc = .ok (.getfield idx, 3)) (hw : Cond.fieldLink J.2.2.1 idx "java/lang/String" "coder" "B" ∈ wsL_law0) (kk : xV J X n k h o L (.int 0 :: st)) : xV J X n k h pc L (.ref 1000 :: st) := by
  subst ho
  obtain ⟨⟨p, l, e, s, m⟩, ⟨args, below, meth, c⟩, ⟨dC, dI, aC⟩, r, A, Q⟩ := X
  intro S hK hA H locs ls hP hD hS hl
  exact vk_getf S.1 S.2.1 hT.2.1 hS S.2.2.2.1 (S.2.2.2.2 _ hw) (fun _ z => z) hd (kk S hK hA H locs ls hP hD hS hl)
theorem xV_scomp (o : Nat) (ho : pc + 3 = o) {idx : Nat} (hd : decode J.1 pc = .ok (.getstatic idx, 3)) (hw : Cond.fieldLink J.2.2.1 idx "java/lang/String" "COMPACT_STRINGS" "Z" ∈ wsL_law0) (kk : xV J X n k h o L (.int 1 :: st)) : xV J X n k h pc L st := by
  subst ho
  obtain ⟨⟨p, l, e, s, m⟩, ⟨args, below, meth, c⟩, ⟨dC, dI, aC⟩, r, A, Q⟩ := X
  intro S hK hA H locs ls hP hD hS hl
  exact va_gets S.1 S.2.1 hK.2.2.2.1 hS S.2.2.2.1 (S.2.2.2.2 _ hw) (fun _ z => z) hd (kk S hK hA H locs ls hP hD hS hl)
theorem xV_slen (o : Nat) (ho : pc + 1 = o) (hT : xStrX X i) (hd : decode J.1 pc = .ok (.arraylength, 1)) (kk : xV J X n k h o L (.int (Int32.ofNat (xKl.getD i 0)) :: st)) : xV J X n k h pc L (.ref 1001 :: st) := by
  subst ho
  obtain ⟨⟨p, l, e, s, m⟩, ⟨args, below, meth, c⟩, ⟨dC, dI, aC⟩, r, A, Q⟩ := X
  intro S hK hA H locs ls hP hD hS hl
  exact va_tlen S.1 S.2.1 hT.2.2.2 hS rfl hd (kk S hK hA H locs ls hP hD hS hl)
theorem xV_sbald (o : Nat) (ho : pc + 1 = o) {x : Int32} (hT : xStrX X i) (hd : decode J.1 pc = .ok (.baload, 1)) (hin : vp_in x (xKl.getD i 0)) (kk : xV J X n k h o L (.int ((xKb.getD i []).getD x.toNatClampNeg 0) :: st)) : xV J X n k h pc L (.int x :: .ref 1001 :: st) := by
  subst ho
  obtain ⟨⟨p, l, e, s, m⟩, ⟨args, below, meth, c⟩, ⟨dC, dI, aC⟩, r, A, Q⟩ := X
  intro S hK hA H locs ls hP hD hS hl
  exact va_tb S.1 S.2.1 hT.2.2.2 hS hin rfl hd (kk S hK hA H locs ls hP hD hS hl)
/-- the formatter that is only asked where an index is wrong: whatever it is -/
theorem xV_sfmt (o : Nat) (ho : pc + 3 = o) {idx : Nat} (hd : decode J.1 pc = .ok (.getstatic idx, 3)) (hw : Cond.fieldLink J.2.2.1 idx "jdk/internal/util/Preconditions" "SIOOBE_FORMATTER" "Ljava/util/function/BiFunction;" ∈ wsL_law0) (hsc : xScH 1002 h) (hL : ∀ q ∈ L, xScV 1002 q.2) (hst : ∀ v ∈ st, xScV 1002 v) (kk : ∀ (v : Value) (r' : Nat → Nat), (v = .null ∨ v = .ref 1002) → xV J (xsetr X r') n k h o L (v :: st)) : xV J X n k h pc L st := by
  subst ho
  obtain ⟨⟨p, l, e, s, m⟩, ⟨args, below, meth, c⟩, ⟨dC, dI, aC⟩, r, A, Q⟩ := X
  intro S hK hA H locs ls hP hD hS hl
  rcases hK.2.2.2.2.1 with hZ | ⟨t, hZ⟩
  · exact va_gets S.1 S.2.1 hZ hS S.2.2.2.1 (S.2.2.2.2 _ hw) (fun _ z => z) hd (kk .null r (Or.inl rfl) S hK hA H locs ls hP hD hS hl)
  · have hr : ∀ j, j < 1002 → (fun j => if j = 1002 then t else r j) j = r j := fun j hj => if_neg (by omega)
    have hr0 : (fun j => if j = 1002 then t else r j) 1002 = t := if_pos rfl
    generalize (fun j => if j = 1002 then t else r j) = r' at hr hr0
    have e1 := xH_cong (aC := aC) hr hsc
    have e2 : xL r' L = xL r L := List.map_congr_left (fun q hq => by rw [xv_cong hr (hL q hq)])
    have e3 : (Value.ref 1002 :: st).map (xv r') = .ref t :: st.map (xv r) := by
      show Value.ref (r' 1002) :: st.map (xv r') = _
      rw [hr0, List.map_congr_left (fun v hv => xv_cong hr (hst v hv))]
    have K := kk (.ref 1002) r' (Or.inr rfl) S hK hA H locs ls (by rw [e1]; exact hP) (by rw [e1]; exact hD) hS (by rw [e2]; exact hl)
    rw [e3] at K
    exact va_gets S.1 S.2.1 hZ hS S.2.2.2.1 (S.2.2.2.2 _ hw) (fun _ z => z) hd K
end XSTR
section XSC
variable {J Jc : xJ} {X : xX} {n k : Nat} {h : xHp} {pc : Nat} {L : List (Nat × Value)} {st rest av av2 : List Value} {y : MethodName} {ret : Option FieldType} {rv : Option Value} {C : String} {idx i : Nat} {l : Launch}
/-- a method of the String constant -/
theorem xV_scallv (o : Nat) (ho : pc + 3 = o) (hd : decode J.1 pc = .ok (.invokevirtual idx, 3)) (hl0 : X.1.2.1 = l) (hT : xStrX X i) (hM : xCtW l y ret Jc (.ref 1000 :: av2) i [] rv []) (hw : xMd y C ret Jc av2.length) (hv : xMv y C) (hC : C = "java/lang/String") (hlk : Cond.methodLink J.2.2.1 idx y ∈ wsL_law0) (hst : st = av2.reverse ++ .ref 1000 :: rest) (hroom : (rest.map fun v => v.category).sum ≤ 8) (hdp : Jc.2.2.2.1 + 1 ≤ J.2.2.2.1) (hml : Jc.2.1 ≤ 21) (hf : n + Jc.2.2.2.2.1 ≤ J.2.2.2.2.1 ∧ k + Jc.2.2.2.2.2 ≤ J.2.2.2.2.2)
    (kk : xV J X (n + Jc.2.2.2.2.1) (k + Jc.2.2.2.2.2) h o L (rv.toList ++ rest)) : xV J X n k h pc L st := by
  subst ho
  obtain ⟨⟨p, l, e, s, m⟩, ⟨args, below, meth, c⟩, ⟨dC, dI, aC⟩, r, A, Q⟩ := X
  intro S hK hA H locs ls hP hD hS hll
  subst hl0
  have e9 : xv (fun j => j) = id := funext xv_id
  obtain ⟨hPc, hDc⟩ := xCut hP hD (xSub_nil h)
  have hcat : ∀ l : List Value, ((l.map (xv r)).map fun v => v.category) = l.map fun v => v.category := fun l => by
    rw [List.map_map]; exact List.map_congr_left (fun v _ => xv_cat r v)
  have hgood : GoodIn wsL_law0 (wsV J.2.2.1 idx C y (Cond.code y Jc.1 Jc.2.1 ret :: wsL_law0)) := by
    intro w hw2
    rcases List.mem_append.mp hw2 with h9 | h9
    · have hm : w ∈ wsL_law0 := by
        simp only [List.mem_cons, List.not_mem_nil, or_false] at h9
        rcases h9 with rfl | rfl | rfl | rfl
        · exact hlk
        · exact hv.1
        · exact hv.2
        · exact hw.2.1
      exact ⟨hm, good_of_word (List.all_eq_true.mp xGood w hm)⟩
    · exact xGoodIn hw w h9
  refine xRunOn (g := fun j => j) (hl := []) (hl' := []) (h' := h) (Jc := Jc) (rest := rest) (rv := rv) (a := (Value.ref (r 1000) :: av2.map (xv r)).toArray) (xSub_nil h) (xBack_nil h) S hK hA hP hD hS hll ?_ (by rw [e9, Option.map_id]; exact kk)
  refine va_runV (As := av2.map (xv r)) (C := C) S (hM dC dI aC r H.size) (cwV av2.length S.2.2.2.2 hgood rfl rfl rfl ⟨hw.2.2.1, hw.2.2.2⟩ ⟨hdp, ?_⟩) ⟨xBlindW, ?_, fun U hU hW => ⟨rfl, by rw [hU], by rw [hU]; exact hPc, by rw [hU]; exact hK.call hS (xFree (dC := dC) (dI := dI) (xSub_nil h) hA hD hS) hW, hDc.weaken (fun _ _ _ _ => trivial), by rw [hU]; exact xStr.call hT hS (xFree (dC := dC) (dI := dI) (xSub_nil h) hA hD hS) hW⟩⟩ rfl (by rw [List.length_map]) hll.1 ?_ (lv_room (by rw [hcat]; exact hroom)) hd hf
  · show 8 + (Jc.2.1 + 11) + (41 * Jc.2.2.2.1 + 32) ≤ 41 * J.2.2.2.1 + 32
    omega
  · obtain ⟨cell, h1, h2, h3, -⟩ := hT.1.kept hS.2.1
    subst hC
    exact ⟨cell, h1, h2, h3⟩
  · show st.map (xv r) = _
    rw [hst, List.map_append, List.map_reverse]
    rfl
/-- a static method that gets the constant's bytes -/
theorem xV_scalls (o : Nat) (ho : pc + 3 = o) (hd : decode J.1 pc = .ok (.invokestatic idx, 3)) (hl0 : X.1.2.1 = l) (hT : xStrX X i) (hM : xCtW l y ret Jc av i [] rv []) (hw : xMd y C ret Jc av.length) (hv : Cond.static y ∈ wsL_law0) (hlk : Cond.methodLink J.2.2.1 idx y ∈ wsL_law0) (hst : st = av.reverse ++ rest) (hroom : (rest.map fun v => v.category).sum ≤ 8) (hdp : Jc.2.2.2.1 + 1 ≤ J.2.2.2.1) (hml : Jc.2.1 ≤ 21) (hf : n + Jc.2.2.2.2.1 ≤ J.2.2.2.2.1 ∧ k + Jc.2.2.2.2.2 ≤ J.2.2.2.2.2)
    (kk : xV J X (n + Jc.2.2.2.2.1) (k + Jc.2.2.2.2.2) h o L (rv.toList ++ rest)) : xV J X n k h pc L st := by
  subst ho
  obtain ⟨⟨p, l, e, s, m⟩, ⟨args, below, meth, c⟩, ⟨dC, dI, aC⟩, r, A, Q⟩ := X
  intro S hK hA H locs ls hP hD hS hll
  subst hl0
  have e9 : xv (fun j => j) = id := funext xv_id
  obtain ⟨hPc, hDc⟩ := xCut hP hD (xSub_nil h)
  have hcat : ∀ l : List Value, ((l.map (xv r)).map fun v => v.category) = l.map fun v => v.category := fun l => by
    rw [List.map_map]; exact List.map_congr_left (fun v _ => xv_cat r v)
  have hgood : GoodIn wsL_law0 (va_wsS J.2.2.1 idx y (Cond.code y Jc.1 Jc.2.1 ret :: wsL_law0)) := by
    intro w hw2
    rcases List.mem_append.mp hw2 with h9 | h9
    · have hm : w ∈ wsL_law0 := by
        simp only [List.mem_cons, List.not_mem_nil, or_false] at h9
        rcases h9 with rfl | rfl | rfl
        · exact hlk
        · exact hv
        · rw [hw.2.2.1]; exact hw.2.1
      exact ⟨hm, good_of_word (List.all_eq_true.mp xGood w hm)⟩
    · exact xGoodIn hw w h9
  refine xRunOn (g := fun j => j) (hl := []) (hl' := []) (h' := h) (Jc := Jc) (rest := rest) (rv := rv) (a := (av.map (xv r)).toArray) (xSub_nil h) (xBack_nil h) S hK hA hP hD hS hll ?_ (by rw [e9, Option.map_id]; exact kk)
  refine va_runS (As := av.map (xv r)) S (hM dC dI aC r H.size) (va_cwS av.length S.2.2.2.2 hgood rfl rfl rfl hw.2.2.2 ⟨hdp, ?_⟩) ⟨xBlindW, fun U hU hW => ⟨rfl, by rw [hU], by rw [hU]; exact hPc, by rw [hU]; exact hK.call hS (xFree (dC := dC) (dI := dI) (xSub_nil h) hA hD hS) hW, hDc.weaken (fun _ _ _ _ => trivial), by rw [hU]; exact xStr.call hT hS (xFree (dC := dC) (dI := dI) (xSub_nil h) hA hD hS) hW⟩⟩ rfl (by rw [List.length_map]) hll.1 ?_ (lv_room (by rw [hcat]; exact hroom)) hd hf
  · show 8 + (Jc.2.1 + 11) + (41 * Jc.2.2.2.1 + 32) ≤ 41 * J.2.2.2.1 + 32
    omega
  · show st.map (xv r) = _
    rw [hst, List.map_append, List.map_reverse]
end XSC
theorem dJ0_length_8abf5_0 : decode cJ0_length_8abf5 0 = .ok (.aload_n 0, 1) := by decide +kernel
theorem dJ0_length_8abf5_1 : decode cJ0_length_8abf5 1 = .ok (.getfield 9, 3) := by decide +kernel
theorem dJ0_length_8abf5_4 : decode cJ0_length_8abf5 4 = .ok (.arraylength, 1) := by decide +kernel
theorem dJ0_length_8abf5_5 : decode cJ0_length_8abf5 5 = .ok (.aload_n 0, 1) := by decide +kernel
theorem dJ0_length_8abf5_6 : decode cJ0_length_8abf5 6 = .ok (.invokevirtual 335, 3) := by decide +kernel
theorem dJ0_length_8abf5_9 : decode cJ0_length_8abf5 9 = .ok (.ishr, 1) := by decide +kernel
theorem dJ0_length_8abf5_10 : decode cJ0_length_8abf5 10 = .ok (.ireturn, 1) := by decide +kernel
theorem dJ0_charAt_5068e_0 : decode cJ0_charAt_5068e 0 = .ok (.aload_n 0, 1) := by decide +kernel
theorem dJ0_charAt_5068e_1 : decode cJ0_charAt_5068e 1 = .ok (.invokevirtual 492, 3) := by decide +kernel
theorem dJ0_charAt_5068e_4 : decode cJ0_charAt_5068e 4 = .ok (.ifCond .eq 12, 3) := by decide +kernel
theorem dJ0_charAt_5068e_7 : decode cJ0_charAt_5068e 7 = .ok (.aload_n 0, 1) := by decide +kernel
theorem dJ0_charAt_5068e_8 : decode cJ0_charAt_5068e 8 = .ok (.getfield 9, 3) := by decide +kernel
theorem dJ0_charAt_5068e_11 : decode cJ0_charAt_5068e 11 = .ok (.iload_n 1, 1) := by decide +kernel
theorem dJ0_charAt_5068e_12 : decode cJ0_charAt_5068e 12 = .ok (.invokestatic 495, 3) := by decide +kernel
theorem dJ0_charAt_5068e_15 : decode cJ0_charAt_5068e 15 = .ok (.ireturn, 1) := by decide +kernel
theorem dJ0_charAt_5068e_16 : decode cJ0_charAt_5068e 16 = .ok (.aload_n 0, 1) := by decide +kernel
theorem dJ0_charAt_5068e_17 : decode cJ0_charAt_5068e 17 = .ok (.getfield 9, 3) := by decide +kernel
theorem dJ0_charAt_5068e_20 : decode cJ0_charAt_5068e 20 = .ok (.iload_n 1, 1) := by decide +kernel
theorem dJ0_charAt_5068e_21 : decode cJ0_charAt_5068e 21 = .ok (.invokestatic 498, 3) := by decide +kernel
theorem dJ0_charAt_5068e_24 : decode cJ0_charAt_5068e 24 = .ok (.ireturn, 1) := by decide +kernel
theorem dJ0_coder_7d493_0 : decode cJ0_coder_7d493 0 = .ok (.getstatic 38, 3) := by decide +kernel
theorem dJ0_coder_7d493_3 : decode cJ0_coder_7d493 3 = .ok (.ifCond .eq 10, 3) := by decide +kernel
theorem dJ0_coder_7d493_6 : decode cJ0_coder_7d493 6 = .ok (.aload_n 0, 1) := by decide +kernel
theorem dJ0_coder_7d493_7 : decode cJ0_coder_7d493 7 = .ok (.getfield 15, 3) := by decide +kernel
theorem dJ0_coder_7d493_10 : decode cJ0_coder_7d493 10 = .ok (.goto 4, 3) := by decide +kernel
theorem dJ0_coder_7d493_13 : decode cJ0_coder_7d493 13 = .ok (.iconst 1, 1) := by decide +kernel
theorem dJ0_coder_7d493_14 : decode cJ0_coder_7d493 14 = .ok (.ireturn, 1) := by decide +kernel
theorem dJ0_isLatin1_aae02_0 : decode cJ0_isLatin1_aae02 0 = .ok (.getstatic 38, 3) := by decide +kernel
theorem dJ0_isLatin1_aae02_3 : decode cJ0_isLatin1_aae02 3 = .ok (.ifCond .eq 14, 3) := by decide +kernel
theorem dJ0_isLatin1_aae02_6 : decode cJ0_isLatin1_aae02 6 = .ok (.aload_n 0, 1) := by decide +kernel
theorem dJ0_isLatin1_aae02_7 : decode cJ0_isLatin1_aae02 7 = .ok (.getfield 15, 3) := by decide +kernel
theorem dJ0_isLatin1_aae02_10 : decode cJ0_isLatin1_aae02 10 = .ok (.ifCond .ne 7, 3) := by decide +kernel
theorem dJ0_isLatin1_aae02_13 : decode cJ0_isLatin1_aae02 13 = .ok (.iconst 1, 1) := by decide +kernel
theorem dJ0_isLatin1_aae02_14 : decode cJ0_isLatin1_aae02 14 = .ok (.goto 4, 3) := by decide +kernel
theorem dJ0_isLatin1_aae02_17 : decode cJ0_isLatin1_aae02 17 = .ok (.iconst 0, 1) := by decide +kernel
theorem dJ0_isLatin1_aae02_18 : decode cJ0_isLatin1_aae02 18 = .ok (.ireturn, 1) := by decide +kernel
theorem dJ0_checkIndex_df160_0 : decode cJ0_checkIndex_df160 0 = .ok (.iload_n 0, 1) := by decide +kernel
theorem dJ0_checkIndex_df160_1 : decode cJ0_checkIndex_df160 1 = .ok (.iload_n 1, 1) := by decide +kernel
theorem dJ0_checkIndex_df160_2 : decode cJ0_checkIndex_df160 2 = .ok (.getstatic 1053, 3) := by decide +kernel
theorem dJ0_checkIndex_df160_5 : decode cJ0_checkIndex_df160 5 = .ok (.invokestatic 1059, 3) := by decide +kernel
theorem dJ0_checkIndex_df160_8 : decode cJ0_checkIndex_df160 8 = .ok (.pop, 1) := by decide +kernel
theorem dJ0_checkIndex_df160_9 : decode cJ0_checkIndex_df160 9 = .ok (.return_, 1) := by decide +kernel
theorem dJ1_charAt_3b067_0 : decode cJ1_charAt_3b067 0 = .ok (.iload_n 1, 1) := by decide +kernel
theorem dJ1_charAt_3b067_1 : decode cJ1_charAt_3b067 1 = .ok (.aload_n 0, 1) := by decide +kernel
theorem dJ1_charAt_3b067_2 : decode cJ1_charAt_3b067 2 = .ok (.arraylength, 1) := by decide +kernel
theorem dJ1_charAt_3b067_3 : decode cJ1_charAt_3b067 3 = .ok (.invokestatic 9, 3) := by decide +kernel
theorem dJ1_charAt_3b067_6 : decode cJ1_charAt_3b067 6 = .ok (.aload_n 0, 1) := by decide +kernel
theorem dJ1_charAt_3b067_7 : decode cJ1_charAt_3b067 7 = .ok (.iload_n 1, 1) := by decide +kernel
theorem dJ1_charAt_3b067_8 : decode cJ1_charAt_3b067 8 = .ok (.baload, 1) := by decide +kernel
theorem dJ1_charAt_3b067_9 : decode cJ1_charAt_3b067 9 = .ok (.sipush 255, 3) := by decide +kernel
theorem dJ1_charAt_3b067_12 : decode cJ1_charAt_3b067 12 = .ok (.iand, 1) := by decide +kernel
theorem dJ1_charAt_3b067_13 : decode cJ1_charAt_3b067 13 = .ok (.i2c, 1) := by decide +kernel
theorem dJ1_charAt_3b067_14 : decode cJ1_charAt_3b067 14 = .ok (.ireturn, 1) := by decide +kernel
theorem dJ3_checkIndex_8e157_0 : decode cJ3_checkIndex_8e157 0 = .ok (.iload_n 0, 1) := by decide +kernel
theorem dJ3_checkIndex_8e157_1 : decode cJ3_checkIndex_8e157 1 = .ok (.ifCond .lt 8, 3) := by decide +kernel
theorem dJ3_checkIndex_8e157_4 : decode cJ3_checkIndex_8e157 4 = .ok (.iload_n 0, 1) := by decide +kernel
theorem dJ3_checkIndex_8e157_5 : decode cJ3_checkIndex_8e157 5 = .ok (.iload_n 1, 1) := by decide +kernel
theorem dJ3_checkIndex_8e157_6 : decode cJ3_checkIndex_8e157 6 = .ok (.if_icmp .lt 10, 3) := by decide +kernel
theorem dJ3_checkIndex_8e157_9 : decode cJ3_checkIndex_8e157 9 = .ok (.aload_n 2, 1) := by decide +kernel
theorem dJ3_checkIndex_8e157_10 : decode cJ3_checkIndex_8e157 10 = .ok (.iload_n 0, 1) := by decide +kernel
theorem dJ3_checkIndex_8e157_11 : decode cJ3_checkIndex_8e157 11 = .ok (.iload_n 1, 1) := by decide +kernel
theorem dJ3_checkIndex_8e157_12 : decode cJ3_checkIndex_8e157 12 = .ok (.invokestatic 95, 3) := by decide +kernel
theorem dJ3_checkIndex_8e157_15 : decode cJ3_checkIndex_8e157 15 = .ok (.athrow, 1) := by decide +kernel
theorem dJ3_checkIndex_8e157_16 : decode cJ3_checkIndex_8e157 16 = .ok (.iload_n 0, 1) := by decide +kernel
theorem dJ3_checkIndex_8e157_17 : decode cJ3_checkIndex_8e157 17 = .ok (.ireturn, 1) := by decide +kernel
theorem dX7_isWord_0 : decode cX7_isWord 0 = .ok (.aload_n 0, 1) := by decide +kernel
theorem dX7_isWord_1 : decode cX7_isWord 1 = .ok (.getfield 37, 3) := by decide +kernel
theorem dX7_isWord_4 : decode cX7_isWord 4 = .ok (.iconst 1, 1) := by decide +kernel
theorem dX7_isWord_5 : decode cX7_isWord 5 = .ok (.if_icmp .ne 19, 3) := by decide +kernel
theorem dX7_isWord_8 : decode cX7_isWord 8 = .ok (.aload_n 0, 1) := by decide +kernel
theorem dX7_isWord_9 : decode cX7_isWord 9 = .ok (.getfield 28, 3) := by decide +kernel
theorem dX7_isWord_12 : decode cX7_isWord 12 = .ok (.aload_n 0, 1) := by decide +kernel
theorem dX7_isWord_13 : decode cX7_isWord 13 = .ok (.getfield 34, 3) := by decide +kernel
theorem dX7_isWord_16 : decode cX7_isWord 16 = .ok (.isub, 1) := by decide +kernel
theorem dX7_isWord_17 : decode cX7_isWord 17 = .ok (.aload_n 1, 1) := by decide +kernel
theorem dX7_isWord_18 : decode cX7_isWord 18 = .ok (.invokevirtual 44, 3) := by decide +kernel
theorem dX7_isWord_21 : decode cX7_isWord 21 = .ok (.if_icmp .eq 5, 3) := by decide +kernel
theorem dX7_isWord_24 : decode cX7_isWord 24 = .ok (.iconst 0, 1) := by decide +kernel
theorem dX7_isWord_25 : decode cX7_isWord 25 = .ok (.ireturn, 1) := by decide +kernel
theorem dX7_isWord_26 : decode cX7_isWord 26 = .ok (.iconst 0, 1) := by decide +kernel
theorem dX7_isWord_27 : decode cX7_isWord 27 = .ok (.istore_n 2, 1) := by decide +kernel
theorem dX7_isWord_28 : decode cX7_isWord 28 = .ok (.iload_n 2, 1) := by decide +kernel
theorem dX7_isWord_29 : decode cX7_isWord 29 = .ok (.aload_n 1, 1) := by decide +kernel
theorem dX7_isWord_30 : decode cX7_isWord 30 = .ok (.invokevirtual 44, 3) := by decide +kernel
theorem dX7_isWord_33 : decode cX7_isWord 33 = .ok (.if_icmp .ge 30, 3) := by decide +kernel
theorem dX7_isWord_36 : decode cX7_isWord 36 = .ok (.aload_n 0, 1) := by decide +kernel
theorem dX7_isWord_37 : decode cX7_isWord 37 = .ok (.getfield 9, 3) := by decide +kernel
theorem dX7_isWord_40 : decode cX7_isWord 40 = .ok (.aload_n 0, 1) := by decide +kernel
theorem dX7_isWord_41 : decode cX7_isWord 41 = .ok (.getfield 34, 3) := by decide +kernel
theorem dX7_isWord_44 : decode cX7_isWord 44 = .ok (.iload_n 2, 1) := by decide +kernel
theorem dX7_isWord_45 : decode cX7_isWord 45 = .ok (.iadd, 1) := by decide +kernel
theorem dX7_isWord_46 : decode cX7_isWord 46 = .ok (.iaload, 1) := by decide +kernel
theorem dX7_isWord_47 : decode cX7_isWord 47 = .ok (.aload_n 1, 1) := by decide +kernel
theorem dX7_isWord_48 : decode cX7_isWord 48 = .ok (.iload_n 2, 1) := by decide +kernel
theorem dX7_isWord_49 : decode cX7_isWord 49 = .ok (.invokevirtual 50, 3) := by decide +kernel
theorem dX7_isWord_52 : decode cX7_isWord 52 = .ok (.if_icmp .eq 5, 3) := by decide +kernel
theorem dX7_isWord_55 : decode cX7_isWord 55 = .ok (.iconst 0, 1) := by decide +kernel
theorem dX7_isWord_56 : decode cX7_isWord 56 = .ok (.ireturn, 1) := by decide +kernel
theorem dX7_isWord_57 : decode cX7_isWord 57 = .ok (.iinc 2 1, 3) := by decide +kernel
theorem dX7_isWord_60 : decode cX7_isWord 60 = .ok (.goto (-32), 3) := by decide +kernel
theorem dX7_isWord_63 : decode cX7_isWord 63 = .ok (.iconst 1, 1) := by decide +kernel
theorem dX7_isWord_64 : decode cX7_isWord 64 = .ok (.ireturn, 1) := by decide +kernel
def xSc (i k : Nat) : Int32 := ((((xKb.getD i []).getD k 0) &&& 255).toUInt32 % 65536).toInt32
theorem xSc_ok : ∀ i, i < 7 → ∀ k, k < xKl.getD i 0 → narrow .char (.int (xSc i k)) = .int (xSc i k) ∧ xSc i k = (xKb.getD i []).getD k 0 := by decide +kernel
theorem xSl_ok : ∀ i, i < 7 → Int32.ofNat (xKl.getD i 0) >>> ((0 : Int32) &&& 31) = Int32.ofNat (xKl.getD i 0) := by decide +kernel
theorem xIs_setr0 {J : xJ} {X : xX} {r' : Nat → Nat} (hX : xIs J X none none []) : xIs J (xsetr X r') none none [] := by
  obtain ⟨⟨p, l, e, s, m⟩, ⟨args, below, meth, c⟩, ⟨dC, dI, aC⟩, r, A, Q⟩ := X
  exact hX
abbrev jJ0_coder : xJ := (cJ0_coder_7d493, 1, RJ0, 1, 0, 0)
abbrev jJ0_isLatin1 : xJ := (cJ0_isLatin1_aae02, 1, RJ0, 1, 0, 0)
abbrev jJ0_length : xJ := (cJ0_length_8abf5, 1, RJ0, 2, 0, 0)
abbrev jJ3_checkIndex : xJ := (cJ3_checkIndex_8e157, 3, RJ3, 1, 0, 0)
abbrev jJ0_checkIndex : xJ := (cJ0_checkIndex_df160, 2, RJ0, 2, 0, 0)
abbrev jJ1_charAt : xJ := (cJ1_charAt_3b067, 2, RJ1, 3, 0, 0)
abbrev jJ0_charAt : xJ := (cJ0_charAt_5068e, 2, RJ0, 4, 0, 0)
theorem mJ0_coder : xMd yJ0_coder_7d493 RJ0 (some .byte) jJ0_coder 0 := ⟨List.mem_of_getElem? (i := 262) (by decide +kernel), List.mem_of_getElem? (i := 256) (by decide +kernel), rfl, by decide +kernel⟩
theorem vJ0_coder : xMv yJ0_coder_7d493 RJ0 := ⟨List.mem_of_getElem? (i := 260) (by decide +kernel), List.mem_of_getElem? (i := 261) (by decide +kernel)⟩
theorem mJ0_isLatin1 : xMd yJ0_isLatin1_aae02 RJ0 (some .boolean) jJ0_isLatin1 0 := ⟨List.mem_of_getElem? (i := 272) (by decide +kernel), List.mem_of_getElem? (i := 256) (by decide +kernel), rfl, by decide +kernel⟩
theorem vJ0_isLatin1 : xMv yJ0_isLatin1_aae02 RJ0 := ⟨List.mem_of_getElem? (i := 270) (by decide +kernel), List.mem_of_getElem? (i := 271) (by decide +kernel)⟩
theorem mJ0_length : xMd yJ0_length_8abf5 RJ0 (some .int) jJ0_length 0 := ⟨List.mem_of_getElem? (i := 257) (by decide +kernel), List.mem_of_getElem? (i := 256) (by decide +kernel), rfl, by decide +kernel⟩
theorem vJ0_length : xMv yJ0_length_8abf5 RJ0 := ⟨List.mem_of_getElem? (i := 254) (by decide +kernel), List.mem_of_getElem? (i := 255) (by decide +kernel)⟩
theorem mJ3_checkIndex : xMd yJ3_checkIndex_8e157 RJ3 (some .int) jJ3_checkIndex 3 := ⟨List.mem_of_getElem? (i := 284) (by decide +kernel), List.mem_of_getElem? (i := 283) (by decide +kernel), rfl, by decide +kernel⟩
theorem mJ0_checkIndex : xMd yJ0_checkIndex_df160 RJ0 none jJ0_checkIndex 2 := ⟨List.mem_of_getElem? (i := 279) (by decide +kernel), List.mem_of_getElem? (i := 256) (by decide +kernel), rfl, by decide +kernel⟩
theorem mJ1_charAt : xMd yJ1_charAt_3b067 RJ1 (some .char) jJ1_charAt 2 := ⟨List.mem_of_getElem? (i := 276) (by decide +kernel), List.mem_of_getElem? (i := 275) (by decide +kernel), rfl, by decide +kernel⟩
theorem mJ0_charAt : xMd yJ0_charAt_5068e RJ0 (some .char) jJ0_charAt 1 := ⟨List.mem_of_getElem? (i := 268) (by decide +kernel), List.mem_of_getElem? (i := 256) (by decide +kernel), rfl, by decide +kernel⟩
theorem vJ0_charAt : xMv yJ0_charAt_5068e RJ0 := ⟨List.mem_of_getElem? (i := 266) (by decide +kernel), List.mem_of_getElem? (i := 267) (by decide +kernel)⟩
theorem CJ0_coder (l : Launch) {i : Nat} : xCtW l yJ0_coder_7d493 (some .byte) jJ0_coder [.ref 1000] i [] (some (.int 0)) [] := xCtW_of (by decide) rfl (Nat.le_of_ble_eq_true rfl) (fun X hl hX hT => by
  refine xV_scomp 3 rfl dJ0_coder_7d493_0 (List.mem_of_getElem? (i := 263) (by decide +kernel)) ?_
  refine xV_if_eq (tgt := 13) 6 rfl dJ0_coder_7d493_3 (by decide) (fun hq => absurd hq (by decide)) (fun _ => ?_)
  refine xV_aload_n 7 rfl dJ0_coder_7d493_6 rfl 0 rfl ?_
  refine xV_scod 10 rfl hT dJ0_coder_7d493_7 (List.mem_of_getElem? (i := 264) (by decide +kernel)) ?_
  refine xV_goto (tgt := 14) dJ0_coder_7d493_10 (by decide) ?_
  exact xV_iret hX dJ0_coder_7d493_14 (by decide) (Nat.zero_le _) (Nat.zero_le _))
theorem CJ0_isLatin1 (l : Launch) {i : Nat} : xCtW l yJ0_isLatin1_aae02 (some .boolean) jJ0_isLatin1 [.ref 1000] i [] (some (.int 1)) [] := xCtW_of (by decide) rfl (Nat.le_of_ble_eq_true rfl) (fun X hl hX hT => by
  refine xV_scomp 3 rfl dJ0_isLatin1_aae02_0 (List.mem_of_getElem? (i := 263) (by decide +kernel)) ?_
  refine xV_if_eq (tgt := 17) 6 rfl dJ0_isLatin1_aae02_3 (by decide) (fun hq => absurd hq (by decide)) (fun _ => ?_)
  refine xV_aload_n 7 rfl dJ0_isLatin1_aae02_6 rfl 0 rfl ?_
  refine xV_scod 10 rfl hT dJ0_isLatin1_aae02_7 (List.mem_of_getElem? (i := 264) (by decide +kernel)) ?_
  refine xV_if_ne (tgt := 17) 13 rfl dJ0_isLatin1_aae02_10 (by decide) (fun hq => absurd rfl hq) (fun _ => ?_)
  refine xV_iconst (v := 1) 14 rfl dJ0_isLatin1_aae02_13 (by decide) ?_
  refine xV_goto (tgt := 18) dJ0_isLatin1_aae02_14 (by decide) ?_
  exact xV_iret hX dJ0_isLatin1_aae02_18 (by decide) (Nat.zero_le _) (Nat.zero_le _))
theorem CJ0_length (l : Launch) {i : Nat} (hi : i < 7) : xCtW l yJ0_length_8abf5 (some .int) jJ0_length [.ref 1000] i [] (some (.int (Int32.ofNat (xKl.getD i 0)))) [] := xCtW_of (by decide) rfl (Nat.le_of_ble_eq_true rfl) (fun X hl hX hT => by
  refine xV_aload_n 1 rfl dJ0_length_8abf5_0 rfl 0 rfl ?_
  refine xV_sval 4 rfl hT dJ0_length_8abf5_1 (List.mem_of_getElem? (i := 258) (by decide +kernel)) ?_
  refine xV_slen 5 rfl hT dJ0_length_8abf5_4 ?_
  refine xV_aload_n 6 rfl dJ0_length_8abf5_5 rfl 0 rfl ?_
  refine xV_scallv (av2 := []) (rest := [.int (Int32.ofNat (xKl.getD i 0))]) 9 rfl dJ0_length_8abf5_6 hl hT (CJ0_coder l) mJ0_coder vJ0_coder rfl (List.mem_of_getElem? (i := 259) (by decide +kernel)) rfl (Nat.le_of_ble_eq_true rfl) (Nat.le_of_ble_eq_true rfl) (Nat.le_of_ble_eq_true rfl) ⟨Nat.le_refl _, Nat.le_refl _⟩ ?_
  show xV jJ0_length X 0 0 [] 9 [(0, .ref 1000)] [.int 0, .int (Int32.ofNat (xKl.getD i 0))]
  refine xV_ishr 10 rfl dJ0_length_8abf5_9 ?_
  rw [xSl_ok i hi]
  exact xV_iret hX dJ0_length_8abf5_10 rfl (Nat.zero_le _) (Nat.zero_le _))
theorem CJ3_checkIndex (l : Launch) {k n : Int32} {v : Value} (hv : v = .null ∨ v = .ref 1002) (h0 : ¬ k < 0) (h1 : k < n) : xCt l yJ3_checkIndex_8e157 (some .int) jJ3_checkIndex [.int k, .int n, v] [] (some (.int k)) [] := by
  have body : ∀ (L : List (Nat × Value)), L[0]? = some (0, .int k) → L[1]? = some (1, .int n) → ∀ X : xX, xIs jJ3_checkIndex X (some .int) (some (.int k)) [] → xV jJ3_checkIndex X 0 0 [] 0 L [] := by
    intro L e0 e1 X hX
    refine xV_iload_n 1 rfl dJ3_checkIndex_8e157_0 rfl 0 e0 ?_
    refine xV_if_lt (tgt := 9) 4 rfl dJ3_checkIndex_8e157_1 (by decide) (fun hq => absurd hq h0) (fun _ => ?_)
    refine xV_iload_n 5 rfl dJ3_checkIndex_8e157_4 rfl 0 e0 ?_
    refine xV_iload_n 6 rfl dJ3_checkIndex_8e157_5 rfl 1 e1 ?_
    refine xV_icmp_lt (tgt := 16) 9 rfl dJ3_checkIndex_8e157_6 (by decide) (fun _ => ?_) (fun hq => absurd h1 hq)
    refine xV_iload_n 17 rfl dJ3_checkIndex_8e157_16 rfl 0 e0 ?_
    exact xV_iret hX dJ3_checkIndex_8e157_17 rfl (Nat.zero_le _) (Nat.zero_le _)
  rcases hv with rfl | rfl
  · exact xCt_of (by decide) rfl (Nat.le_of_ble_eq_true rfl) (fun X hX => body _ rfl rfl X hX)
  · exact xCt_of (by decide) rfl (Nat.le_of_ble_eq_true rfl) (fun X hX => body _ rfl rfl X hX)
theorem CJ0_checkIndex (l : Launch) {k n : Int32} (h0 : ¬ k < 0) (h1 : k < n) : xCt l yJ0_checkIndex_df160 none jJ0_checkIndex [.int k, .int n] [] none [] := xCt_of (by decide) rfl (Nat.le_of_ble_eq_true rfl) (fun X hX => by
  refine xV_iload_n 1 rfl dJ0_checkIndex_df160_0 rfl 0 rfl ?_
  refine xV_iload_n 2 rfl dJ0_checkIndex_df160_1 rfl 1 rfl ?_
  refine xV_sfmt 5 rfl dJ0_checkIndex_df160_2 (List.mem_of_getElem? (i := 280) (by decide +kernel)) (xScH_of (Nat.zero_le _) rfl) (xScL_of rfl) (xScS_of rfl) (fun v r' hv => ?_)
  have hX := xIs_setr0 (r' := r') hX
  refine xV_st0 (rest := []) (av := [.int k, .int n, v]) 8 rfl dJ0_checkIndex_df160_5 rfl (CJ3_checkIndex _ hv h0 h1) mJ3_checkIndex (List.mem_of_getElem? (i := 282) (by decide +kernel)) (List.mem_of_getElem? (i := 281) (by decide +kernel)) rfl (Nat.le_of_ble_eq_true rfl) (Nat.le_of_ble_eq_true rfl) (Nat.le_of_ble_eq_true rfl) ⟨Nat.le_refl _, Nat.le_refl _⟩ ?_
  show xV jJ0_checkIndex (xsetr X r') 0 0 [] 8 [(0, .int k), (1, .int n)] [.int k]
  refine xV_pop 9 rfl dJ0_checkIndex_df160_8 rfl ?_
  exact xV_vret hX dJ0_checkIndex_df160_9 (Nat.zero_le _) (Nat.zero_le _))
theorem xlt_of {k : Int32} {N : Nat} (hN : N < 2147483648) (h : xin k N = true) : ¬ k < 0 ∧ k < Int32.ofNat N := by
  have h1 := xin_ok h
  unfold vp_in at h1
  have h0 : ¬ k < 0 := fun q => h1 (Or.inl q)
  refine ⟨h0, ?_⟩
  have h2 : k.toNatClampNeg < N := xin_lt h
  have h3 : (0 : Int) ≤ k.toInt := by
    have := Int32.not_lt.mp h0
    simpa using Int32.le_iff_toInt_le.mp this
  apply Int32.lt_iff_toInt_lt.mpr
  rw [Int32.toInt_ofNat_of_lt (by omega)]
  have : k.toNatClampNeg = k.toInt.toNat := rfl
  omega
theorem CJ1_charAt (l : Launch) {i : Nat} {k : Int32} (hi : i < 7) (hk : xin k (xKl.getD i 0) = true) : xCtW l yJ1_charAt_3b067 (some .char) jJ1_charAt [.ref 1001, .int k] i [] (some (.int (xSc i (xn k)))) [] := xCtW_of (by decide) rfl (Nat.le_of_ble_eq_true rfl) (fun X hl hX hT => by
  have hN : xKl.getD i 0 < 2147483648 := by
    have : ∀ i, i < 7 → xKl.getD i 0 < 2147483648 := by decide +kernel
    exact this i hi
  have h2 := xlt_of hN hk
  refine xV_iload_n 1 rfl dJ1_charAt_3b067_0 rfl 1 rfl ?_
  refine xV_aload_n 2 rfl dJ1_charAt_3b067_1 rfl 0 rfl ?_
  refine xV_slen 3 rfl hT dJ1_charAt_3b067_2 ?_
  refine xV_st0 (rest := []) (av := [.int k, .int (Int32.ofNat (xKl.getD i 0))]) 6 rfl dJ1_charAt_3b067_3 rfl (CJ0_checkIndex _ h2.1 h2.2) mJ0_checkIndex (List.mem_of_getElem? (i := 278) (by decide +kernel)) (List.mem_of_getElem? (i := 277) (by decide +kernel)) rfl (Nat.le_of_ble_eq_true rfl) (Nat.le_of_ble_eq_true rfl) (Nat.le_of_ble_eq_true rfl) ⟨Nat.le_refl _, Nat.le_refl _⟩ ?_
  show xV jJ1_charAt X 0 0 [] 6 [(0, .ref 1001), (1, .int k)] []
  refine xV_aload_n 7 rfl dJ1_charAt_3b067_6 rfl 0 rfl ?_
  refine xV_iload_n 8 rfl dJ1_charAt_3b067_7 rfl 1 rfl ?_
  refine xV_sbald 9 rfl hT dJ1_charAt_3b067_8 (xin_ok hk) ?_
  refine xV_sipush (v := 255) 12 rfl dJ1_charAt_3b067_9 (by decide) ?_
  refine xV_iand 13 rfl dJ1_charAt_3b067_12 ?_
  refine xV_i2c 14 rfl dJ1_charAt_3b067_13 ?_
  exact xV_iret hX dJ1_charAt_3b067_14 (xSc_ok i hi (xn k) (xin_lt hk)).1 (Nat.zero_le _) (Nat.zero_le _))
theorem CJ0_charAt (l : Launch) {i : Nat} {k : Int32} (hi : i < 7) (hk : xin k (xKl.getD i 0) = true) : xCtW l yJ0_charAt_5068e (some .char) jJ0_charAt [.ref 1000, .int k] i [] (some (.int (xSc i (xn k)))) [] := xCtW_of (by decide) rfl (Nat.le_of_ble_eq_true rfl) (fun X hl hX hT => by
  refine xV_aload_n 1 rfl dJ0_charAt_5068e_0 rfl 0 rfl ?_
  refine xV_scallv (av2 := []) (rest := []) 4 rfl dJ0_charAt_5068e_1 hl hT (CJ0_isLatin1 l) mJ0_isLatin1 vJ0_isLatin1 rfl (List.mem_of_getElem? (i := 269) (by decide +kernel)) rfl (Nat.le_of_ble_eq_true rfl) (Nat.le_of_ble_eq_true rfl) (Nat.le_of_ble_eq_true rfl) ⟨Nat.le_refl _, Nat.le_refl _⟩ ?_
  show xV jJ0_charAt X 0 0 [] 4 [(0, .ref 1000), (1, .int k)] [.int 1]
  refine xV_if_eq (tgt := 16) 7 rfl dJ0_charAt_5068e_4 (by decide) (fun hq => absurd hq (by decide)) (fun _ => ?_)
  refine xV_aload_n 8 rfl dJ0_charAt_5068e_7 rfl 0 rfl ?_
  refine xV_sval 11 rfl hT dJ0_charAt_5068e_8 (List.mem_of_getElem? (i := 258) (by decide +kernel)) ?_
  refine xV_iload_n 12 rfl dJ0_charAt_5068e_11 rfl 1 rfl ?_
  refine xV_scalls (rest := []) (av := [.ref 1001, .int k]) 15 rfl dJ0_charAt_5068e_12 hl hT (CJ1_charAt l hi hk) mJ1_charAt (List.mem_of_getElem? (i := 274) (by decide +kernel)) (List.mem_of_getElem? (i := 273) (by decide +kernel)) rfl (Nat.le_of_ble_eq_true rfl) (Nat.le_of_ble_eq_true rfl) (Nat.le_of_ble_eq_true rfl) ⟨Nat.le_refl _, Nat.le_refl _⟩ ?_
  show xV jJ0_charAt X 0 0 [] 15 [(0, .ref 1000), (1, .int k)] [.int (xSc i (xn k))]
  exact xV_iret hX dJ0_charAt_5068e_15 (xSc_ok i hi (xn k) (xin_lt hk)).1 (Nat.zero_le _) (Nat.zero_le _))
/-! ===== isWord ===== -/
def F7_isWord_b28 (z : Nat) (w : Nat) (i : Nat) (x2 : Int32) (c_bytes : Nat → Int32) (c_from : Int32) : Option Int32 := match w with
  | 0 => none
  | w + 1 => if Int32.ofNat (xKl.getD i 0) ≤ x2 then some 1 else xg (xin (c_from + x2) 300) (xg (xin x2 (xKl.getD i 0)) (if c_bytes (xn (c_from + x2)) = xSc i (xn x2) then F7_isWord_b28 z w i (x2 + 1) c_bytes c_from else some 0))
def F7_isWord (z : Nat) (i : Nat) (c_bytes : Nat → Int32) (c_kind : Int32) (c_from : Int32) (c_behind : Int32) : Option Int32 :=
  if c_kind = 1 then (if c_behind - c_from = Int32.ofNat (xKl.getD i 0) then F7_isWord_b28 z z i 0 c_bytes c_from else some 0) else some 0
abbrev j7_isWord : xJ := (cX7_isWord, 3, RX7, 5, 0, 0)
theorem m7_isWord : xMd yX7_isWord RX7 (some .boolean) j7_isWord 1 := ⟨List.mem_of_getElem? (i := 252) (by decide +kernel), List.mem_of_getElem? (i := 81) (by decide +kernel), rfl, by decide +kernel⟩
theorem v7_isWord : xMv yX7_isWord RX7 := ⟨List.mem_of_getElem? (i := 250) (by decide +kernel), List.mem_of_getElem? (i := 251) (by decide +kernel)⟩
theorem T7_isWord_b28 {l : Launch} {X : xX} {z i : Nat} (hi : i < 7) {c_bytes : Nat → Int32} {c_many c_kind c_from c_behind c_end : Int32} {v : Int32} (hl : X.1.2.1 = l) (hX : xIs j7_isWord X (some .boolean) (some (.int v)) (hT c_bytes c_many c_kind c_from c_behind c_end)) (hT0 : xStrX X i) : ∀ (w : Nat) {x2 : Int32}, F7_isWord_b28 z w i x2 c_bytes c_from = some v → xV j7_isWord X 0 0 (hT c_bytes c_many c_kind c_from c_behind c_end) 28 [(2, .int x2), (0, .ref 0), (1, .ref 1000)] [] := by
  intro w
  induction w with
  | zero => intro x2 hf; cases hf
  | succ w ih =>
    intro x2 hf
    unfold F7_isWord_b28 at hf
    refine xV_iload_n 29 rfl dX7_isWord_28 rfl 0 rfl ?_
    refine xV_aload_n 30 rfl dX7_isWord_29 rfl 2 rfl ?_
    refine xV_scallv (av2 := []) (rest := [.int x2]) 33 rfl dX7_isWord_30 hl hT0 (CJ0_length l hi) mJ0_length vJ0_length rfl (List.mem_of_getElem? (i := 253) (by decide +kernel)) rfl (Nat.le_of_ble_eq_true rfl) (Nat.le_of_ble_eq_true rfl) (Nat.le_of_ble_eq_true rfl) ⟨Nat.le_refl _, Nat.le_refl _⟩ ?_
    show xV j7_isWord X 0 0 (hT c_bytes c_many c_kind c_from c_behind c_end) 33 [(2, .int x2), (0, .ref 0), (1, .ref 1000)] [.int (Int32.ofNat (xKl.getD i 0)), .int x2]
    refine xV_icmp_ge (tgt := 63) 36 rfl dX7_isWord_33 (by decide) (fun hc => ?_) (fun hc => ?_)
    · have hf := xif_t hf hc
      refine xV_iconst (v := 1) 64 rfl dX7_isWord_63 (by decide) ?_
      obtain rfl := Option.some.inj hf
      exact xV_iret hX dX7_isWord_64 (xbo_ok rfl) (Nat.zero_le _) (Nat.zero_le _)
    · have hf := xif_f hf hc
      refine xV_aload_n 37 rfl dX7_isWord_36 rfl 1 rfl ?_
      refine xV_get (v := .ref 1) 40 rfl dX7_isWord_37 f7_9 rfl rfl ?_
      refine xV_aload_n 41 rfl dX7_isWord_40 rfl 1 rfl ?_
      refine xV_get (v := .int c_from) 44 rfl dX7_isWord_41 f7_34 rfl rfl ?_
      refine xV_iload_n 45 rfl dX7_isWord_44 rfl 0 rfl ?_
      refine xV_iadd 46 rfl dX7_isWord_45 ?_
      obtain ⟨hg, hf⟩ := xg_s hf
      refine xV_iaload 47 rfl dX7_isWord_46 rfl (xin_ok hg) rfl ?_
      refine xV_aload_n 48 rfl dX7_isWord_47 rfl 2 rfl ?_
      refine xV_iload_n 49 rfl dX7_isWord_48 rfl 0 rfl ?_
      obtain ⟨hg2, hf⟩ := xg_s hf
      refine xV_scallv (av2 := [.int x2]) (rest := [.int (c_bytes (xn (c_from + x2)))]) 52 rfl dX7_isWord_49 hl hT0 (CJ0_charAt l hi hg2) mJ0_charAt vJ0_charAt rfl (List.mem_of_getElem? (i := 265) (by decide +kernel)) rfl (Nat.le_of_ble_eq_true rfl) (Nat.le_of_ble_eq_true rfl) (Nat.le_of_ble_eq_true rfl) ⟨Nat.le_refl _, Nat.le_refl _⟩ ?_
      show xV j7_isWord X 0 0 (hT c_bytes c_many c_kind c_from c_behind c_end) 52 [(2, .int x2), (0, .ref 0), (1, .ref 1000)] [.int (xSc i (xn x2)), .int (c_bytes (xn (c_from + x2)))]
      refine xV_icmp_eq (tgt := 57) 55 rfl dX7_isWord_52 (by decide) (fun hc => ?_) (fun hc => ?_)
      · have hf := xif_t hf hc
        refine xV_iinc (L' := [(2, .int (x2 + 1)), (0, .ref 0), (1, .ref 1000)]) 60 rfl dX7_isWord_57 0 rfl (xk_inc (by decide)) (xlt rfl) rfl ?_
        refine xV_goto (tgt := 28) dX7_isWord_60 (by decide) ?_
        exact ih hf
      · have hf := xif_f hf hc
        refine xV_iconst (v := 0) 56 rfl dX7_isWord_55 (by decide) ?_
        obtain rfl := Option.some.inj hf
        exact xV_iret hX dX7_isWord_56 (xbo_ok rfl) (Nat.zero_le _) (Nat.zero_le _)
theorem C7_isWord (l : Launch) {z i : Nat} (hi : i < 7) {c_bytes : Nat → Int32} {c_many c_kind c_from c_behind c_end : Int32} {v : Int32} (hf : F7_isWord z i c_bytes c_kind c_from c_behind = some v) : xCtW l yX7_isWord (some .boolean) j7_isWord [.ref 0, .ref 1000] i (hT c_bytes c_many c_kind c_from c_behind c_end) (some (.int v)) (hT c_bytes c_many c_kind c_from c_behind c_end) := xCtW_of (by decide) rfl (Nat.le_of_ble_eq_true rfl) (fun X hl hX hT0 => by
  unfold F7_isWord at hf
  refine xV_aload_n 1 rfl dX7_isWord_0 rfl 0 rfl ?_
  refine xV_get (v := .int c_kind) 4 rfl dX7_isWord_1 f7_37 rfl rfl ?_
  refine xV_iconst (v := 1) 5 rfl dX7_isWord_4 (by decide) ?_
  refine xV_icmp_ne (tgt := 24) 8 rfl dX7_isWord_5 (by decide) (fun hc => ?_) (fun hc => ?_)
  · have hf := xif_f hf hc
    refine xV_iconst (v := 0) 25 rfl dX7_isWord_24 (by decide) ?_
    obtain rfl := Option.some.inj hf
    exact xV_iret hX dX7_isWord_25 (xbo_ok rfl) (Nat.zero_le _) (Nat.zero_le _)
  · have hf := xif_t hf hc
    refine xV_aload_n 9 rfl dX7_isWord_8 rfl 0 rfl ?_
    refine xV_get (v := .int c_behind) 12 rfl dX7_isWord_9 f7_28 rfl rfl ?_
    refine xV_aload_n 13 rfl dX7_isWord_12 rfl 0 rfl ?_
    refine xV_get (v := .int c_from) 16 rfl dX7_isWord_13 f7_34 rfl rfl ?_
    refine xV_isub 17 rfl dX7_isWord_16 ?_
    refine xV_aload_n 18 rfl dX7_isWord_17 rfl 1 rfl ?_
    refine xV_scallv (av2 := []) (rest := [.int (c_behind - c_from)]) 21 rfl dX7_isWord_18 hl hT0 (CJ0_length l hi) mJ0_length vJ0_length rfl (List.mem_of_getElem? (i := 253) (by decide +kernel)) rfl (Nat.le_of_ble_eq_true rfl) (Nat.le_of_ble_eq_true rfl) (Nat.le_of_ble_eq_true rfl) ⟨Nat.le_refl _, Nat.le_refl _⟩ ?_
    show xV j7_isWord X 0 0 (hT c_bytes c_many c_kind c_from c_behind c_end) 21 [(0, .ref 0), (1, .ref 1000)] [.int (Int32.ofNat (xKl.getD i 0)), .int (c_behind - c_from)]
    refine xV_icmp_eq (tgt := 26) 24 rfl dX7_isWord_21 (by decide) (fun hc2 => ?_) (fun hc2 => ?_)
    · have hf := xif_t hf hc2
      refine xV_iconst (v := 0) 27 rfl dX7_isWord_26 (by decide) ?_
      refine xV_istore_n (L' := [(2, .int 0), (0, .ref 0), (1, .ref 1000)]) 28 rfl dX7_isWord_27 rfl (xlt rfl) rfl ?_
      exact T7_isWord_b28 hi hl hX hT0 _ hf
    · have hf := xif_f hf hc2
      refine xV_iconst (v := 0) 25 rfl dX7_isWord_24 (by decide) ?_
      obtain rfl := Option.some.inj hf
      exact xV_iret hX dX7_isWord_25 (xbo_ok rfl) (Nat.zero_le _) (Nat.zero_le _))
