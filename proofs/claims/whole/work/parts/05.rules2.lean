/-! ===== switches, Math, an array made in a method ===== -/
section X2
variable {J : xJ} {X : xX} {n k : Nat} {h : xHp} {pc : Nat} {L : List (Nat × Value)} {st : List Value}
theorem xV_tin {dflt lo hi off : Int} {offs : Array Int} {len tgt : Nat} {x v : Int32} (hd : decode J.1 pc = .ok (.tableswitch dflt lo hi offs, len)) (hx : x = v) (h1 : ¬ v.toInt < lo) (h2 : ¬ hi < v.toInt) (ho : offs[(v.toInt - lo).toNat]? = some off) (ht : (pc : Int) + off = (tgt : Int)) (kk : xV J X n k h tgt L st) : xV J X n k h pc L (.int x :: st) := by
  obtain ⟨⟨p, l, e, s, m⟩, ⟨args, below, meth, c⟩, ⟨dC, dI, aC⟩, r, A, Q⟩ := X
  intro S hK hA H locs ls hP hD hS hl
  subst hx
  exact lv_tableIn S.1 S.2.1 hd h1 h2 ho ht (kk S hK hA H locs ls hP hD hS hl)
theorem xV_tout {dflt lo hi : Int} {offs : Array Int} {len tgt : Nat} {x : Int32} (hd : decode J.1 pc = .ok (.tableswitch dflt lo hi offs, len)) (vs : List Int32) (N : Nat) (hN : lo + (N : Int) = hi + 1) (hc : ∀ j, j < N → Int32.ofInt (lo + (j : Int)) ∈ vs) (hne : ∀ v ∈ vs, ¬ x = v) (ht : (pc : Int) + dflt = (tgt : Int)) (kk : xV J X n k h tgt L st) : xV J X n k h pc L (.int x :: st) := by
  obtain ⟨⟨p, l, e, s, m⟩, ⟨args, below, meth, c⟩, ⟨dC, dI, aC⟩, r, A, Q⟩ := X
  intro S hK hA H locs ls hP hD hS hl
  refine lv_tableOut S.1 S.2.1 hd ?_ ht (kk S hK hA H locs ls hP hD hS hl)
  by_cases h1 : x.toInt < lo
  · exact Or.inl h1
  · by_cases h2 : hi < x.toInt
    · exact Or.inr h2
    · exfalso
      have h3 := hc (x.toInt - lo).toNat (by omega)
      have h4 : lo + (((x.toInt - lo).toNat : Nat) : Int) = x.toInt := by omega
      rw [h4, Int32.ofInt_toInt] at h3
      exact hne x h3 rfl
theorem xLoc {d mc ms : Nat} (hd : 1 ≤ d) {t : Nat} (h : t ≤ 8) : t + 13 ≤ (xR d mc ms).locals := by
  show t + 13 ≤ 41 * d + 32
  omega
theorem xCats {r : Nat → Nat} {l : List Value} (h : (l.map fun v => v.category).sum ≤ 8) : ((l.map (xv r)).map fun v => v.category).sum ≤ 8 := by
  rw [List.map_map, show ((fun v : Value => v.category) ∘ xv r) = (fun v => v.category) from funext (fun v => xv_cat r v)]
  exact h
theorem xm_max : Cond.static Lib.Math.max.name ∈ wsL_law0 ∧ Cond.initialized "java/lang/Math" ∈ wsL_law0 ∧ Cond.code Lib.Math.max.name Lib.Math.max.code 2 (some .int) ∈ wsL_law0 := ⟨List.mem_of_getElem? (i := 781) (by decide +kernel), List.mem_of_getElem? (i := 231) (by decide +kernel), List.mem_of_getElem? (i := 782) (by decide +kernel)⟩
theorem xm_min : Cond.static Lib.Math.min.name ∈ wsL_law0 ∧ Cond.initialized "java/lang/Math" ∈ wsL_law0 ∧ Cond.code Lib.Math.min.name Lib.Math.min.code 2 (some .int) ∈ wsL_law0 := ⟨List.mem_of_getElem? (i := 230) (by decide +kernel), List.mem_of_getElem? (i := 231) (by decide +kernel), List.mem_of_getElem? (i := 232) (by decide +kernel)⟩
theorem xm_abs : Cond.static Lib.Math.abs.name ∈ wsL_law0 ∧ Cond.initialized "java/lang/Math" ∈ wsL_law0 ∧ Cond.code Lib.Math.abs.name Lib.Math.abs.code 1 (some .int) ∈ wsL_law0 := ⟨List.mem_of_getElem? (i := 1280) (by decide +kernel), List.mem_of_getElem? (i := 231) (by decide +kernel), List.mem_of_getElem? (i := 1281) (by decide +kernel)⟩
theorem xm_absl : Cond.static Lib.MathLoose.abs_long.x ∈ wsL_law0 ∧ Cond.initialized "java/lang/Math" ∈ wsL_law0 ∧ Cond.code Lib.MathLoose.abs_long.x Lib.MathLoose.abs_long.code 2 (some .long) ∈ wsL_law0 := ⟨List.mem_of_getElem? (i := 917) (by decide +kernel), List.mem_of_getElem? (i := 231) (by decide +kernel), List.mem_of_getElem? (i := 918) (by decide +kernel)⟩
theorem xV_mmax (o : Nat) (ho : pc + 3 = o) {idx : Nat} {x y : Int32} (hd : decode J.1 pc = .ok (.invokestatic idx, 3)) (hw : Cond.methodLink J.2.2.1 idx Lib.Math.max.name ∈ wsL_law0) (hr : (st.map fun v => v.category).sum ≤ 8) (hdp : 1 ≤ J.2.2.2.1) (hn : n ≤ J.2.2.2.2.1) (hk : k ≤ J.2.2.2.2.2) (kk : xV J X n k h o L (.int (if x < y then y else x) :: st)) : xV J X n k h pc L (.int y :: .int x :: st) := by
  subst ho
  obtain ⟨⟨p, l, e, s, m⟩, ⟨args, below, meth, c⟩, ⟨dC, dI, aC⟩, r, A, Q⟩ := X
  intro S hK hA H locs ls hP hD hS hl
  exact va_mmax S.1 S.2.1 (S.2.2.1.trans hl.1.symm) S.2.2.2.1 (S.2.2.2.2 _ hw) (S.2.2.2.2 _ xm_max.1) (S.2.2.2.2 _ xm_max.2.1) (S.2.2.2.2 _ xm_max.2.2) hdp (xLoc hdp (xCats hr)) hn hk hd (kk S hK hA H locs ls hP hD hS hl)
theorem xV_mmin (o : Nat) (ho : pc + 3 = o) {idx : Nat} {x y : Int32} (hd : decode J.1 pc = .ok (.invokestatic idx, 3)) (hw : Cond.methodLink J.2.2.1 idx Lib.Math.min.name ∈ wsL_law0) (hr : (st.map fun v => v.category).sum ≤ 8) (hdp : 1 ≤ J.2.2.2.1) (hn : n ≤ J.2.2.2.2.1) (hk : k ≤ J.2.2.2.2.2) (kk : xV J X n k h o L (.int (if y < x then y else x) :: st)) : xV J X n k h pc L (.int y :: .int x :: st) := by
  subst ho
  obtain ⟨⟨p, l, e, s, m⟩, ⟨args, below, meth, c⟩, ⟨dC, dI, aC⟩, r, A, Q⟩ := X
  intro S hK hA H locs ls hP hD hS hl
  exact va_mmin S.1 S.2.1 (S.2.2.1.trans hl.1.symm) S.2.2.2.1 (S.2.2.2.2 _ hw) (S.2.2.2.2 _ xm_min.1) (S.2.2.2.2 _ xm_min.2.1) (S.2.2.2.2 _ xm_min.2.2) hdp (xLoc hdp (xCats hr)) hn hk hd (kk S hK hA H locs ls hP hD hS hl)
theorem xV_mabs (o : Nat) (ho : pc + 3 = o) {idx : Nat} {x : Int32} (hd : decode J.1 pc = .ok (.invokestatic idx, 3)) (hw : Cond.methodLink J.2.2.1 idx Lib.Math.abs.name ∈ wsL_law0) (hr : (st.map fun v => v.category).sum ≤ 8) (hdp : 1 ≤ J.2.2.2.1) (hn : n ≤ J.2.2.2.2.1) (hk : k ≤ J.2.2.2.2.2) (kk : xV J X n k h o L (.int (if 0 ≤ x then x else 0 - x) :: st)) : xV J X n k h pc L (.int x :: st) := by
  subst ho
  obtain ⟨⟨p, l, e, s, m⟩, ⟨args, below, meth, c⟩, ⟨dC, dI, aC⟩, r, A, Q⟩ := X
  intro S hK hA H locs ls hP hD hS hl
  exact va_mabs S.1 S.2.1 (S.2.2.1.trans hl.1.symm) S.2.2.2.1 (S.2.2.2.2 _ hw) (S.2.2.2.2 _ xm_abs.1) (S.2.2.2.2 _ xm_abs.2.1) (S.2.2.2.2 _ xm_abs.2.2) hdp (xLoc hdp (xCats hr)) hn hk hd (kk S hK hA H locs ls hP hD hS hl)
theorem xV_mabsl (o : Nat) (ho : pc + 3 = o) {idx : Nat} {x : Int64} (hd : decode J.1 pc = .ok (.invokestatic idx, 3)) (hw : Cond.methodLink J.2.2.1 idx Lib.MathLoose.abs_long.x ∈ wsL_law0) (hr : (st.map fun v => v.category).sum ≤ 8) (hdp : 1 ≤ J.2.2.2.1) (hn : n ≤ J.2.2.2.2.1) (hk : k ≤ J.2.2.2.2.2) (kk : xV J X n k h o L (.long (if 0 < x then x else -x) :: st)) : xV J X n k h pc L (.long x :: st) := by
  subst ho
  obtain ⟨⟨p, l, e, s, m⟩, ⟨args, below, meth, c⟩, ⟨dC, dI, aC⟩, r, A, Q⟩ := X
  intro S hK hA H locs ls hP hD hS hl
  exact va_mabs_long S.1 S.2.1 (S.2.2.1.trans hl.1.symm) S.2.2.2.1 (S.2.2.2.2 _ hw) (S.2.2.2.2 _ xm_absl.1) (S.2.2.2.2 _ xm_absl.2.1) (S.2.2.2.2 _ xm_absl.2.2) hdp (xLoc hdp (xCats hr)) hn hk hd (kk S hK hA H locs ls hP hD hS hl)
/-- fewer cells -/
theorem xV_drop {t : xHp} (kk : xV J X n k h pc L st) : xV J X n k (h ++ t) pc L st := by
  obtain ⟨⟨p, l, e, s, m⟩, ⟨args, below, meth, c⟩, ⟨dC, dI, aC⟩, r, A, Q⟩ := X
  intro S hK hA H locs ls hP hD hS hl
  have key : ∀ (i : Nat) (q : Nat × va_E), (xH aC r h)[i]? = some q → (xH aC r (h ++ t))[i]? = some q := by
    intro i q hq
    obtain ⟨c, hc, rfl⟩ := xH_some hq
    exact xH_at (by rw [List.getElem?_append_left (List.getElem?_eq_some_iff.mp hc).1]; exact hc)
  exact kk S hK hA H locs ls (fun i q hq => hP i q (key i q hq)) ⟨fun i j p q hp hq hpq => hD.1 i j p q (key i p hp) (key j q hq) hpq, fun i q hq => hD.2 i q (key i q hq)⟩ hS hl
end X2
/-- references below a bound -/
def xScV (N : Nat) (v : Value) : Prop := ∀ a, v = .ref a → a < N
def xScE (N : Nat) (c : xE) : Prop := match c with
  | .inl (_, _, .inr (.inr l)) => ∀ b ∈ l, b < N
  | .inl _ => True
  | .inr (_, fs) => ∀ v ∈ fs, xScV N v
def xScH (N : Nat) (h : xHp) : Prop := h.length ≤ N ∧ ∀ c ∈ h, xScE N c
def xScVb (N : Nat) (v : Value) : Bool := match v with
  | .ref a => decide (a < N)
  | _ => true
def xScEb (N : Nat) (c : xE) : Bool := match c with
  | .inl (_, _, .inr (.inr l)) => l.all (fun b => decide (b < N))
  | .inl _ => true
  | .inr (_, fs) => fs.all (xScVb N)
theorem xScV_of {N : Nat} {v : Value} (h : xScVb N v = true) : xScV N v := by
  intro a e
  subst e
  simpa [xScVb] using h
theorem xScH_of {N : Nat} {h : xHp} (hl : h.length ≤ N) (hb : h.all (xScEb N) = true) : xScH N h := by
  refine ⟨hl, fun c hc => ?_⟩
  have h1 := List.all_eq_true.mp hb c hc
  rcases c with ⟨kd, z, y⟩ | ⟨ci, fs⟩
  · rcases y with y | y | y
    · trivial
    · trivial
    · intro b hb2
      simpa using List.all_eq_true.mp h1 b hb2
  · intro v hv
    exact xScV_of (List.all_eq_true.mp h1 v hv)
theorem xv_cong {N : Nat} {r r' : Nat → Nat} (hr : ∀ j, j < N → r' j = r j) {v : Value} (h : xScV N v) : xv r' v = xv r v := by
  cases v with
  | ref a => show Value.ref (r' a) = .ref (r a); rw [hr a (h a rfl)]
  | _ => rfl
theorem xe_cong {N : Nat} {r r' : Nat → Nat} (hr : ∀ j, j < N → r' j = r j) {c : xE} (h : xScE N c) : xe r' c = xe r c := by
  rcases c with ⟨kd, z, y⟩ | ⟨ci, fs⟩
  · rcases y with y | y | y
    · rfl
    · rfl
    · show (Sum.inl (kd, z, .inr (.inr (y.map r'))) : xE) = .inl (kd, z, .inr (.inr (y.map r)))
      rw [List.map_congr_left (fun b hb => hr b (h b hb))]
  · show (Sum.inr (ci, fs.map (xv r')) : xE) = .inr (ci, fs.map (xv r))
    rw [List.map_congr_left (fun v hv => xv_cong hr (h v hv))]
theorem xH_cong {N : Nat} {aC : Nat → ClassId} {r r' : Nat → Nat} (hr : ∀ j, j < N → r' j = r j) {h : xHp} (hs : xScH N h) : xH aC r' h = xH aC r h := by
  apply List.ext_getElem?
  intro i
  unfold xH
  rw [List.getElem?_mapIdx, List.getElem?_mapIdx]
  cases hi : h[i]? with
  | none => rfl
  | some c =>
    have h1 : i < h.length := (List.getElem?_eq_some_iff.mp hi).1
    show some (r' i, xc aC (xe r' c)) = some (r i, xc aC (xe r c))
    rw [hr i (Nat.lt_of_lt_of_le h1 hs.1), xe_cong hr (hs.2 c (List.mem_of_getElem? hi))]
theorem xRA {U : State} {cA : ClassId} {ty : FieldType} (h : va_RA U cA ty) : U.vm.findClass ("[" ++ ty.toString) = some cA := by
  cases ty with
  | object C => exact h.choose_spec.choose_spec.2.2.2
  | _ => exact h
section X3
variable {J : xJ} {X : xX} {n k : Nat} {h : xHp} {pc : Nat} {L : List (Nat × Value)} {st : List Value}
theorem xV_newa (o : Nat) (ho : pc + 2 = o) {atype : ArrayType} {x : Int32} {N kd : Nat} {ty : FieldType} {a0 : xAr} (hd : decode J.1 pc = .ok (.newarray atype, 2)) (hw : Cond.arrayClass (newarray.typeOf atype) ∈ wsL_law0) (hty : newarray.typeOf atype = ty) (hkd : xKs[kd]? = some ty) (ha : ∀ cA : ClassId, vp_cell cA (xca a0) = arrV cA N (fun _ => defaultValue ty)) (hx : ∀ r, xa r a0 = a0) (hn : ¬ x < 0) (hN : x.toNatClampNeg = N) (hbytes : N * componentBytes ty ≤ 536870912) (hcells : n + 1 ≤ J.2.2.2.2.1) (hslots : k + N ≤ J.2.2.2.2.2) (hsc : xScH h.length h) (hL : ∀ q ∈ L, xScV h.length q.2) (hst : ∀ v ∈ st, xScV h.length v)
    (kk : ∀ X' : xX, X'.1 = X.1 → (∀ ret rv hv, xScH h.length hv → (∀ v, rv = some v → xScV h.length v) → xIs J X ret rv hv → xIs J X' ret rv hv) → xV J X' (n + 1) (k + N) (h ++ [.inl (kd, a0)]) o L (.ref h.length :: st)) : xV J X n k h pc L (.int x :: st) := by
  subst ho
  obtain ⟨⟨p, l, e, s, m⟩, ⟨args, below, meth, c⟩, ⟨dC, dI, aC⟩, r, A, Q⟩ := X
  intro S hK hA H locs ls hP hD hS hl
  refine va_newa S.1 S.2.1 (S.2.2.2.2 _ hw) hty hK.1 hP hD hS hA ha hn hN hbytes hcells hslots hd (fun q cA H1 hK1 hP1 hD1 hS1 => ?_)
  have hcA : cA = aC kd := by
    have h1 := xRA (hK.1.2 kd _ (xT_at hkd)).2
    have h2 := xRA (hK1.2 (xT aC).length (cA, ty) (by rw [List.getElem?_append_right (Nat.le_refl _), Nat.sub_self]; rfl)).2
    exact Option.some.inj (h2.symm.trans h1)
  subst hcA
  have hr : ∀ j, j < h.length → (fun j => if j = h.length then q else r j) j = r j := fun j hj => if_neg (by omega)
  have hr0 : (fun j => if j = h.length then q else r j) h.length = q := if_pos rfl
  generalize (fun j => if j = h.length then q else r j) = r' at hr hr0
  have e1 : xH aC r' (h ++ [.inl (kd, a0)]) = xH aC r h ++ [(q, .inl (aC kd, xca a0))] := by
    rw [← xH_cong (aC := aC) hr hsc]
    unfold xH
    rw [List.mapIdx_append]
    congr 1
    show [(r' (0 + h.length), Sum.inl (aC kd, xca (xa r' a0)))] = _
    rw [Nat.zero_add, hr0, hx]
  have e2 : xL r' L = xL r L := List.map_congr_left (fun q hq => by rw [xv_cong hr (hL q hq)])
  have e3 : (Value.ref h.length :: st).map (xv r') = .ref q :: st.map (xv r) := by
    show Value.ref (r' h.length) :: st.map (xv r') = _
    rw [hr0, List.map_congr_left (fun v hv => xv_cong hr (hst v hv))]
  have K := kk ((p, l, e, s, m), (args, below, meth, c), (dC, dI, aC), r', A, Q) rfl (fun ret rv hv h1 h2 hI => by
    obtain ⟨hQ, h3, h4⟩ := hI
    refine ⟨?_, h3, h4⟩
    rw [hQ]
    have e4 : xQ dC dI aC r rv hv A = xQ dC dI aC r' rv hv A := by
      unfold xQ
      rw [xH_cong (aC := aC) hr h1]
      have e5 : rv.map (xv r') = rv.map (xv r) := by
        cases rv with
        | none => rfl
        | some v => show some (xv r' v) = some (xv r v); rw [xv_cong hr (h2 v rfl)]
      rw [e5]
    rw [e4]) S hK hA H1 locs ls (by rw [e1]; exact hP1) (by rw [e1]; exact hD1) hS1 (by rw [e2]; exact hl)
  rw [e3] at K
  exact K
end X3
theorem xScL_of {N : Nat} {L : List (Nat × Value)} (h : L.all (fun q => xScVb N q.2) = true) : ∀ q ∈ L, xScV N q.2 := fun q hq => xScV_of (List.all_eq_true.mp h q hq)
theorem xScS_of {N : Nat} {l : List Value} (h : l.all (xScVb N) = true) : ∀ v ∈ l, xScV N v := fun v hv => xScV_of (List.all_eq_true.mp h v hv)
theorem xV_eq {J : xJ} {X : xX} {n k n' k' : Nat} {h : xHp} {pc : Nat} {L : List (Nat × Value)} {st : List Value} (hn : n = n') (hk : k = k') (kk : xV J X n' k' h pc L st) : xV J X n k h pc L st := by
  subst hn; subst hk; exact kk
theorem xsix {a b : Nat} (h : a ≤ b) : 6 * a ≤ 6 * b := by omega
theorem xsixc {a b c : Nat} (h : a + b ≤ c) : 6 * a + 6 * b ≤ 6 * c := by omega
theorem xsixe (a b : Nat) : 6 * a + 6 * b = 6 * (a + b) := by omega
theorem xk_inc {v w : Int32} {a : Int} (h : Int32.ofInt a = w) : v + Int32.ofInt a = v + w := by rw [h]
theorem xlt {a b : Nat} (h : Nat.blt a b = true) : a < b := Nat.le_of_ble_eq_true h
theorem xSub_pre (h t : xHp) : xSub (fun j => j) h (h ++ t) := ⟨fun j c hc => by rw [xe_id, List.getElem?_append_left (List.getElem?_eq_some_iff.mp hc).1]; exact hc, fun _ _ _ _ e => e⟩
theorem xBack_pre {h h' : xHp} (t : xHp) (e : h'.length = h.length) : xBack (fun j => j) h h' (h ++ t) (h' ++ t) := ⟨e, by simp [e], fun j c hc => by rw [xe_id, List.getElem?_append_left (List.getElem?_eq_some_iff.mp hc).1]; exact hc, fun i hi => by
  by_cases hl : i < h.length
  · exact absurd rfl (hi i hl)
  · rw [List.getElem?_append_right (by omega), List.getElem?_append_right (by omega), e]⟩
/-- a method of the same object, over the same cells but the last ones -/
theorem xV_pre {J Jc : xJ} {X : xX} {n k : Nat} {h h' t : xHp} {pc : Nat} {L : List (Nat × Value)} {st rest av2 : List Value} {y : MethodName} {ret : Option FieldType} {rv : Option Value} {C : String} {idx : Nat} {l : Launch} (o : Nat) (ho : pc + 3 = o) {b ci : Nat} {fs : List Value} {q : vw_C} (hd : decode J.1 pc = .ok (.invokevirtual idx, 3)) (hl0 : X.1.2.1 = l) (hM : xCt l y ret Jc (.ref b :: av2) h rv h') (hw : xMd y C ret Jc av2.length) (hv : xMv y C) (hlk : Cond.methodLink J.2.2.1 idx y ∈ wsL_law0) (hlen : h'.length = h.length) (hst : st = av2.reverse ++ .ref b :: rest) (hcb : (h ++ t)[b]? = some (.inr (ci, fs))) (hci : vwCl[ci]? = some q) (hC : q.1 = C) (hroom : (rest.map fun v => v.category).sum ≤ 8) (hdp : Jc.2.2.2.1 + 1 ≤ J.2.2.2.1) (hml : Jc.2.1 ≤ 21) (hf : n + Jc.2.2.2.2.1 ≤ J.2.2.2.2.1 ∧ k + Jc.2.2.2.2.2 ≤ J.2.2.2.2.2)
    (kk : xV J X (n + Jc.2.2.2.2.1) (k + Jc.2.2.2.2.2) (h' ++ t) o L (rv.toList ++ rest)) : xV J X n k (h ++ t) pc L st := by
  subst ho
  have e9 : xv (fun j => j) = id := funext xv_id
  refine xV_callv hd hl0 hM hw hv hlk (xSub_pre h t) (xBack_pre t hlen) (by rw [e9, List.map_id]) hst hcb hci hC hroom hdp hml hf ?_
  rw [e9, Option.map_id]
  exact kk
theorem xsixe2 {a b m : Nat} (h : m = 6 * b) : 6 * a + m = 6 * (a + b) := by omega
/-! ===== a call over a part of the cells ===== -/
def xputA (g : Nat → Nat) : Nat → xHp → xHp → xHp
  | _, h, [] => h
  | k, h, c :: cs => xputA g (k + 1) (h.set (g k) (xe g c)) cs
theorem xputA_len (g : Nat → Nat) : ∀ (cs : xHp) (k : Nat) (h : xHp), (xputA g k h cs).length = h.length
  | [], _, _ => rfl
  | c :: cs, k, h => by
    show (xputA g (k + 1) (h.set (g k) (xe g c)) cs).length = _
    rw [xputA_len g cs]; simp
theorem xputA_ne (g : Nat → Nat) : ∀ (cs : xHp) (k : Nat) (h : xHp) (i : Nat), (∀ j, k ≤ j → j < k + cs.length → g j ≠ i) → (xputA g k h cs)[i]? = h[i]?
  | [], _, _, _, _ => rfl
  | c :: cs, k, h, i, hi => by
    show (xputA g (k + 1) (h.set (g k) (xe g c)) cs)[i]? = _
    rw [xputA_ne g cs (k + 1) _ i (fun j h1 h2 => hi j (by omega) (by simp only [List.length_cons]; omega))]
    exact List.getElem?_set_ne (hi k (Nat.le_refl k) (by simp only [List.length_cons]; omega))
theorem xputA_at (g : Nat → Nat) : ∀ (cs : xHp) (k : Nat) (h : xHp) (j : Nat) (c : xE), (∀ a b, k ≤ a → a < k + cs.length → k ≤ b → b < k + cs.length → g a = g b → a = b) → (∀ a, k ≤ a → a < k + cs.length → g a < h.length) → cs[j]? = some c → (xputA g k h cs)[g (k + j)]? = some (xe g c)
  | [], _, _, _, _, _, _, hc => by simp at hc
  | d :: cs, k, h, 0, c, hi, hl, hc => by
    cases hc
    show (xputA g (k + 1) (h.set (g k) (xe g d)) cs)[g (k + 0)]? = _
    rw [xputA_ne g cs (k + 1) _ _ (fun j h1 h2 e => by
      have := hi j k (by omega) (by simp only [List.length_cons]; omega) (Nat.le_refl k) (by simp only [List.length_cons]; omega) e
      omega)]
    rw [Nat.add_zero, List.getElem?_set_self (hl k (Nat.le_refl k) (by simp only [List.length_cons]; omega))]
  | d :: cs, k, h, j + 1, c, hi, hl, hc => by
    have hc' : cs[j]? = some c := by simpa using hc
    show (xputA g (k + 1) (h.set (g k) (xe g d)) cs)[g (k + (j + 1))]? = _
    have := xputA_at g cs (k + 1) (h.set (g k) (xe g d)) j c (fun a b h1 h2 h3 h4 => hi a b (by omega) (by simp only [List.length_cons]; omega) (by omega) (by simp only [List.length_cons]; omega)) (fun a h1 h2 => by rw [List.length_set]; exact hl a (by omega) (by simp only [List.length_cons]; omega)) hc'
    rw [show k + 1 + j = k + (j + 1) by omega] at this
    exact this
def xNd (g : Nat → Nat) (n : Nat) : Bool := va_nd ((List.range n).map g)
theorem xNd_inj {g : Nat → Nat} {n : Nat} (h : xNd g n = true) : ∀ i j : Nat, i < n → j < n → g i = g j → i = j := by
  intro i j hi hj e
  refine va_nd_inj _ h i j (g i) ?_ ?_
  · rw [List.getElem?_map, List.getElem?_range hi]; rfl
  · rw [List.getElem?_map, List.getElem?_range hj, e]; rfl
def xCutL (g : Nat → Nat) (hl h : xHp) : Prop := (List.range hl.length).map (fun j => h[g j]?) = hl.map (fun c => some (xe g c))
theorem xCutL_sub {g : Nat → Nat} {hl h : xHp} (hn : xNd g hl.length = true) (e : xCutL g hl h) : xSub g hl h := by
  refine ⟨fun j c hc => ?_, xNd_inj hn⟩
  have hj : j < hl.length := (List.getElem?_eq_some_iff.mp hc).1
  have h1 : ((List.range hl.length).map (fun j => h[g j]?))[j]? = (hl.map (fun c => some (xe g c)))[j]? := by rw [e]
  rw [List.getElem?_map, List.getElem?_range hj, List.getElem?_map, hc] at h1
  exact Option.some.inj h1
theorem xput_back {g : Nat → Nat} {hl hl' h : xHp} (hn : xNd g hl.length = true) (e : xCutL g hl h) (hlen : hl'.length = hl.length) : xBack g hl hl' h (xputA g 0 h hl') := by
  have hs := xCutL_sub hn e
  have inj := xNd_inj hn
  have hlt : ∀ j, j < hl.length → g j < h.length := fun j hj => (List.getElem?_eq_some_iff.mp (hs.1 j _ (List.getElem?_eq_getElem hj))).1
  refine ⟨hlen, xputA_len g hl' 0 h, fun j c hc => ?_, fun i hi => ?_⟩
  · have := xputA_at g hl' 0 h j c (fun a b _ h2 _ h4 => inj a b (by omega) (by omega)) (fun a _ h2 => hlt a (by omega)) hc
    rw [Nat.zero_add] at this
    exact this
  · exact xputA_ne g hl' 0 h i (fun j _ h2 => hi j (by omega))
theorem xV_vir {J Jc : xJ} {X : xX} {n k : Nat} {h h' hl hl' : xHp} {pc : Nat} {L : List (Nat × Value)} {st rest av : List Value} {y : MethodName} {ret : Option FieldType} {rv : Option Value} {C : String} {idx : Nat} {l : Launch} {g : Nat → Nat} (o : Nat) (ho : pc + 3 = o) {ci : Nat} {q : vw_C} (hd : decode J.1 pc = .ok (.invokevirtual idx, 3)) (hl0 : X.1.2.1 = l) (hM : xCt l y ret Jc (.ref 0 :: av) hl rv hl') (hw : xMd y C ret Jc av.length) (hv : xMv y C) (hlk : Cond.methodLink J.2.2.1 idx y ∈ wsL_law0) (hlen : hl'.length = hl.length) (hci : vwCl[ci]? = some q) (hC : q.1 = C)
    (hall : xNd g hl.length = true ∧ xCutL g hl h ∧ xputA g 0 h hl' = h' ∧ (∃ fs, h[g 0]? = some (.inr (ci, fs))) ∧ st = (av.map (xv g)).reverse ++ .ref (g 0) :: rest) (hroom : (rest.map fun v => v.category).sum ≤ 8) (hdp : Jc.2.2.2.1 + 1 ≤ J.2.2.2.1) (hml : Jc.2.1 ≤ 21) (hf : n + Jc.2.2.2.2.1 ≤ J.2.2.2.2.1 ∧ k + Jc.2.2.2.2.2 ≤ J.2.2.2.2.2)
    (kk : xV J X (n + Jc.2.2.2.2.1) (k + Jc.2.2.2.2.2) h' o L ((rv.map (xv g)).toList ++ rest)) : xV J X n k h pc L st := by
  subst ho
  obtain ⟨h1, h2, h3, ⟨fs, h4⟩, h5⟩ := hall
  subst h3
  exact xV_callv hd hl0 hM (by rw [List.length_map]; exact hw) hv hlk (xCutL_sub h1 h2) (xput_back h1 h2 hlen) rfl h5 h4 hci hC hroom hdp hml hf kk
theorem xin_lt {i : Int32} {z : Nat} (h : xin i z = true) : xn i < z := by
  have h1 := xin_ok h
  exact Nat.not_le.mp fun q => h1 (Or.inr q)
theorem xblt {a b : Nat} (h : Nat.blt a b = true) : a < b := Nat.le_of_ble_eq_true h
/-- a static method of a nest mate that touches no cell -/
theorem xV_stN {J Jc : xJ} {X : xX} {n k : Nat} {h : xHp} {pc : Nat} {L : List (Nat × Value)} {st rest av : List Value} {y : MethodName} {ret : Option FieldType} {rv : Option Value} {C : String} {idx : Nat} {l : Launch} (o : Nat) (ho : pc + 3 = o) (hd : decode J.1 pc = .ok (.invokestatic idx, 3)) (hl0 : X.1.2.1 = l) (hM : xCt l y ret Jc av [] rv []) (hw : xMd y C ret Jc av.length) (hv : Cond.static y ∈ wsL_law0) (hlk : (J.2.2.1, idx, y) ∈ xNl) (hst : st = av.reverse ++ rest) (hroom : (rest.map fun v => v.category).sum ≤ 8) (hdp : Jc.2.2.2.1 + 1 ≤ J.2.2.2.1) (hml : Jc.2.1 ≤ 21) (hf : n + Jc.2.2.2.2.1 ≤ J.2.2.2.2.1 ∧ k + Jc.2.2.2.2.2 ≤ J.2.2.2.2.2)
    (kk : xV J X (n + Jc.2.2.2.2.1) (k + Jc.2.2.2.2.2) h o L (rv.toList ++ rest)) : xV J X n k h pc L st := by
  subst ho
  obtain ⟨⟨p, l, e, s, m⟩, ⟨args, below, meth, c⟩, ⟨dC, dI, aC⟩, r, A, Q⟩ := X
  intro S hK hA H locs ls hP hD hS hll
  subst hl0
  have e9 : xv (fun j => j) = id := funext xv_id
  obtain ⟨hPc, hDc⟩ := xCut hP hD (xSub_nil h)
  have hcat : ∀ l : List Value, ((l.map (xv r)).map fun v => v.category) = l.map fun v => v.category := fun l => by
    rw [List.map_map]; exact List.map_congr_left (fun v _ => xv_cat r v)
  refine xRunOn (g := fun j => j) (hl := []) (hl' := []) (h' := h) (Jc := Jc) (rest := rest) (rv := rv) (a := (av.map (xv r)).toArray) (xSub_nil h) (xBack_nil h) S hK hA hP hD hS hll ?_ (by rw [e9, Option.map_id]; exact kk)
  refine va_runSN (As := av.map (xv r)) S (hM dC dI aC r H.size) ⟨va_cnB av.length S.2.2.2.2 (xGoodIn hw) rfl rfl rfl (hK.2.1 _ hlk) (S.2.2.2.2 _ (by rw [hw.2.2.1]; exact hw.2.1)) hw.2.2.2 ⟨hdp, ?_⟩, S.2.2.2.2 _ hv, trivial⟩ ⟨xBlind, fun U hU hW => ⟨rfl, by rw [hU], by rw [hU]; exact hPc, by rw [hU]; exact hK.call hS (xFree (dC := dC) (dI := dI) (xSub_nil h) hA hD hS) hW, hDc.weaken (fun _ _ _ _ => trivial)⟩⟩ rfl (by rw [List.length_map]) hll.1 ?_ (lv_room (by rw [hcat]; exact hroom)) hd hf
  · show 8 + (Jc.2.1 + 11) + (41 * Jc.2.2.2.1 + 32) ≤ 41 * J.2.2.2.1 + 32
    omega
  · show st.map (xv r) = _
    rw [hst, List.map_append, List.map_reverse]
theorem xm_copy : Cond.native arraycopyName ∈ wsL_law0 ∧ Cond.static arraycopyName ∈ wsL_law0 ∧ Cond.initialized "java/lang/System" ∈ wsL_law0 := ⟨List.mem_of_getElem? (i := 202) (by decide +kernel), List.mem_of_getElem? (i := 203) (by decide +kernel), List.mem_of_getElem? (i := 204) (by decide +kernel)⟩
/-- a whole row of ints copied into another -/
theorem xV_acopy {J : xJ} {X : xX} {n k : Nat} {h : xHp} {pc : Nat} {L : List (Nat × Value)} {st : List Value} (o : Nat) (ho : pc + 3 = o) {idx a b z : Nat} {x : Int32} {f g : Nat → Int32} {h' : xHp} (hd : decode J.1 pc = .ok (.invokestatic idx, 3)) (hw : Cond.methodLink J.2.2.1 idx arraycopyName ∈ wsL_law0) (hc : h[a]? = some (.inl (0, z, .inl f)) ∧ h[b]? = some (.inl (0, z, .inl g)) ∧ h.set b (.inl (0, z, .inl (va_cpy f g 0 0 z))) = h') (h0 : ¬ (0 : Int32) < 0) (hx : ¬ x < 0) (hxz : x.toNatClampNeg = z) (hr : (st.map fun v => v.category).sum ≤ 8) (hdp : 1 ≤ J.2.2.2.1) (kk : xV J X n k h' o L st) : xV J X n k h pc L (.int x :: .int 0 :: .ref b :: .int 0 :: .ref a :: st) := by
  subst ho
  obtain ⟨⟨p, l, e, s, m⟩, ⟨args, below, meth, c⟩, ⟨dC, dI, aC⟩, r, A, Q⟩ := X
  intro S hK hA H locs ls hP hD hS hl
  obtain ⟨hca, hcb, hh⟩ := hc
  subst hh
  have z0 : (0 : Int32).toNatClampNeg = 0 := by decide
  refine va_copyi S.1 S.2.1 (S.2.2.1.trans hl.1.symm) S.2.2.2.1 (S.2.2.2.2 _ hw) (S.2.2.2.2 _ xm_copy.1) (S.2.2.2.2 _ xm_copy.2.1) (S.2.2.2.2 _ xm_copy.2.2) hK.1 hP hD hS a b 0 0 (xH_at hca) (xH_at hcb) (ty := .int) (xT_at rfl) (xT_at rfl) rfl h0 h0 hx (by rw [z0, hxz]; omega) (by rw [z0, hxz]; omega) (fun i _ => rfl) hdp ?_ hd (fun H1 locs1 hP1 hD1 hS1 => ?_)
  · have h9 : nativeFrameWords "java/lang/System" "arraycopy" 5 + 11 ≤ 32 := by decide +kernel
    have h8 := xCats (r := r) hr
    show _ ≤ 41 * J.2.2.2.1 + 32
    omega
  · have e1 : (xH aC r h).set b (r b, .inl (aC 0, z, .inl (va_cpy f g 0 0 z))) = xH aC r (h.set b (.inl (0, z, .inl (va_cpy f g 0 0 z)))) := xH_set (c := (.inl (0, z, .inl (va_cpy f g 0 0 z))))
    rw [z0, hxz] at hP1 hD1
    have hP2 : va_P (dC, dI) vwCl ((xH aC r h).set b (r b, .inl (aC 0, z, .inl (va_cpy f g 0 0 z)))) H1 := hP1
    have hD2 : va_D A ((xH aC r h).set b (r b, .inl (aC 0, z, .inl (va_cpy f g 0 0 z)))) := hD1
    rw [e1] at hP2 hD2
    exact kk S hK hA H1 locs1 ls hP2 hD2 hS1 hl
theorem xup_same {α : Type} (f : Nat → α) (k : Nat) : f = va_up f k (f k) := by
  funext j
  unfold va_up
  by_cases h : j = k
  · rw [if_pos h, h]
  · rw [if_neg h]
def xCov (g : Nat → Nat) (n : Nat) (R : List Nat) (len : Nat) : Bool := (List.range len).all (fun i => decide (i ∈ R) || decide (i ∈ (List.range n).map g))
def xCutR (g : Nat → Nat) (h : xHp) : Nat → xHp → Prop
  | _, [] => True
  | k, c :: cs => h[g k]? = some (xe g c) ∧ xCutR g h (k + 1) cs
def xRestR (h h' : xHp) : List Nat → Prop
  | [] => True
  | i :: R => h'[i]? = h[i]? ∧ xRestR h h' R
theorem xCutR_at {g : Nat → Nat} {h : xHp} : ∀ (cs : xHp) (k : Nat), xCutR g h k cs → ∀ (j : Nat) (c : xE), cs[j]? = some c → h[g (k + j)]? = some (xe g c)
  | [], _, _, _, _, hc => by simp at hc
  | d :: cs, k, e, 0, c, hc => by cases hc; exact e.1
  | d :: cs, k, e, j + 1, c, hc => by
    have := xCutR_at cs (k + 1) e.2 j c (by simpa using hc)
    rw [show k + 1 + j = k + (j + 1) by omega] at this
    exact this
theorem xRestR_at {h h' : xHp} : ∀ (R : List Nat), xRestR h h' R → ∀ i ∈ R, h'[i]? = h[i]?
  | [], _, i, hi => by cases hi
  | a :: R, e, i, hi => by
    rcases List.mem_cons.mp hi with rfl | hi
    · exact e.1
    · exact xRestR_at R e.2 i hi
def xEmb (g : Nat → Nat) (hl hl' h h' : xHp) (ci : Nat) : Prop := xNd g hl.length = true ∧ xCutR g h 0 hl ∧ xCutR g h' 0 hl' ∧ (∃ R : List Nat, xRestR h h' R ∧ xCov g hl.length R h.length = true) ∧ h'.length = h.length ∧ ∃ fs, h[g 0]? = some (.inr (ci, fs))
theorem xEmb_sub {g : Nat → Nat} {hl hl' h h' : xHp} {ci : Nat} (e : xEmb g hl hl' h h' ci) : xSub g hl h := ⟨fun j c hc => by
    have := xCutR_at hl 0 e.2.1 j c hc
    rw [Nat.zero_add] at this
    exact this, xNd_inj e.1⟩
theorem xEmb_back {g : Nat → Nat} {hl hl' h h' : xHp} {ci : Nat} (e : xEmb g hl hl' h h' ci) (hlen : hl'.length = hl.length) : xBack g hl hl' h h' := by
  obtain ⟨h1, h2, h3, ⟨R, h4, h5⟩, h6, -⟩ := e
  refine ⟨hlen, h6, fun j c hc => ?_, fun i hi => ?_⟩
  · have := xCutR_at hl' 0 h3 j c hc
    rw [Nat.zero_add] at this
    exact this
  · by_cases hl2 : i < h.length
    · have h7 := List.all_eq_true.mp h5 i (List.mem_range.mpr hl2)
      simp only [Bool.or_eq_true, decide_eq_true_eq] at h7
      rcases h7 with h7 | h7
      · exact xRestR_at R h4 i h7
      · obtain ⟨j, hj, hji⟩ := List.mem_map.mp h7
        exact absurd hji (hi j (List.mem_range.mp hj))
    · rw [List.getElem?_eq_none (by omega), List.getElem?_eq_none (by omega)]
theorem xV_vir2 {J Jc : xJ} {X : xX} {n k : Nat} {h h' hl hl' : xHp} {pc : Nat} {L : List (Nat × Value)} {st rest av : List Value} {y : MethodName} {ret : Option FieldType} {rv : Option Value} {C : String} {idx : Nat} {l : Launch} {g : Nat → Nat} (o : Nat) (ho : pc + 3 = o) {ci : Nat} {q : vw_C} (hd : decode J.1 pc = .ok (.invokevirtual idx, 3)) (hl0 : X.1.2.1 = l) (hM : xCt l y ret Jc (.ref 0 :: av) hl rv hl') (hw : xMd y C ret Jc av.length) (hv : xMv y C) (hlk : Cond.methodLink J.2.2.1 idx y ∈ wsL_law0) (hlen : hl'.length = hl.length) (hci : vwCl[ci]? = some q) (hC : q.1 = C)
    (hall : xEmb g hl hl' h h' ci) (hst : st = (av.map (xv g)).reverse ++ .ref (g 0) :: rest) (hroom : (rest.map fun v => v.category).sum ≤ 8) (hdp : Jc.2.2.2.1 + 1 ≤ J.2.2.2.1) (hml : Jc.2.1 ≤ 21) (hf : n + Jc.2.2.2.2.1 ≤ J.2.2.2.2.1 ∧ k + Jc.2.2.2.2.2 ≤ J.2.2.2.2.2)
    (kk : xV J X (n + Jc.2.2.2.2.1) (k + Jc.2.2.2.2.2) h' o L ((rv.map (xv g)).toList ++ rest)) : xV J X n k h pc L st := by
  subst ho
  obtain ⟨fs, h4⟩ := hall.2.2.2.2.2
  exact xV_callv hd hl0 hM (by rw [List.length_map]; exact hw) hv hlk (xEmb_sub hall) (xEmb_back hall hlen) rfl hst h4 hci hC hroom hdp hml hf kk
theorem xeq3 {α : Type} {a b c d : α} (h1 : a = c) (h2 : b = d) (h3 : c = d) : a = b := h1.trans (h3.trans h2.symm)
