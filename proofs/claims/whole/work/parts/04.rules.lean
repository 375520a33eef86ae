/-! ===== the abstract heap: cells by their places; the judgement xV; a row an instruction ===== -/
/-- a cell: an array (its kind, its length and content) or an object (its class, its fields); references are places -/
abbrev xAr : Type := Nat × ((Nat → Int32) ⊕ (Nat → Int64) ⊕ List Nat)
abbrev xE : Type := (Nat × xAr) ⊕ (Nat × List Value)
abbrev xHp : Type := List xE
/-- the kinds of arrays -/
def xKs : List FieldType := [.int, .long, .byte, .boolean, .object "SecretForces$Book", .object "SecretForces$Plan", .object "SecretForces$Notes", .array .int, .array .long]
def xT (aC : Nat → ClassId) : List (ClassId × FieldType) := xKs.mapIdx (fun k t => (aC k, t))
def xv (r : Nat → Nat) (v : Value) : Value := match v with
  | .ref a => .ref (r a)
  | w => w
def xa (r : Nat → Nat) (a : xAr) : xAr := match a with
  | (n, .inl f) => (n, .inl f)
  | (n, .inr (.inl f)) => (n, .inr (.inl f))
  | (n, .inr (.inr l)) => (n, .inr (.inr (l.map r)))
def xca (a : xAr) : vp_A := match a with
  | (n, .inl f) => (n, .inl f)
  | (n, .inr (.inl f)) => (n, .inr (.inl f))
  | (n, .inr (.inr l)) => (n, .inr (.inr (.inr (.inr (fun j => l[j]?)))))
def xe (r : Nat → Nat) (c : xE) : xE := match c with
  | .inl (k, a) => .inl (k, xa r a)
  | .inr (ci, fs) => .inr (ci, fs.map (xv r))
def xc (aC : Nat → ClassId) (c : xE) : va_E := match c with
  | .inl (k, a) => .inl (aC k, xca a)
  | .inr q => .inr q
def xH (aC : Nat → ClassId) (r : Nat → Nat) (h : xHp) : va_W := h.mapIdx (fun k c => (r k, xc aC (xe r c)))
def xL (r : Nat → Nat) (L : List (Nat × Value)) : List (Nat × Value) := L.map (fun q => (q.1, xv r q.2))
/-- links of private members of nest mates: they are no words of a contract, but facts of the state -/
def xNl : List (String × Nat × MethodName) := [(RX4, 73, yX9_isSide), (RX8, 111, yX9_isSide), (RX9, 18, yX8_init), (RX9, 34, yX2_init), (RX9, 37, yX5_init), (RX9, 44, yX6_init), (RX9, 51, yX1_init), (RX4, 42, yX0_init), (RX4, 43, yX3_init), (RX8, 11, yX7_init)]
def xNs (U : State) : Prop := ∀ q ∈ xNl, va_Nw (.methodLinkNest q.1 q.2.1 q.2.2 "SecretForces") U
/-- the String constants: the class, the place in its pool, the text; lengths and bytes -/
def xKt : Nat → String × Nat × String := fun i => match i with
  | 0 => (RX8, 50, "fields")
  | 1 => (RX8, 59, "forces")
  | 2 => (RX8, 64, "ties")
  | 3 => (RX8, 69, "book")
  | 4 => (RX8, 74, "plan")
  | 5 => (RX8, 150, "weight")
  | _ => (RX9, 131, "no such split")
def xKl : List Nat := [6, 6, 4, 4, 4, 6, 13]
def xKb : List (List Int32) := [[102, 105, 101, 108, 100, 115], [102, 111, 114, 99, 101, 115], [116, 105, 101, 115], [98, 111, 111, 107], [112, 108, 97, 110], [119, 101, 105, 103, 104, 116], [110, 111, 32, 115, 117, 99, 104, 32, 115, 112, 108, 105, 116]]
/-- what else holds of the state and of cells that nobody writes (constants of the class, statics of the JDK) -/
def xZ (A : Nat → Prop) (U : State) (H : Heap) : Prop :=
  (∃ adK adV : Nat → Nat, vk_S 7 xKl xKb adK adV A U H ∧ ∀ i : Nat, i < 7 → vk_R (xKt i).1 (xKt i).2.1 (xKt i).2.2 (adK i) U) ∧
  va_Z "java/lang/String" "COMPACT_STRINGS" "Z" (.int 1) A U H ∧ va_Zq "jdk/internal/util/Preconditions" "SIOOBE_FORMATTER" "Ljava/util/function/BiFunction;" A U H ∧
  vx_Zq Bundle.tN "UNASSIGNED_STACK" Bundle.steD A U H ∧ vx_Zq Bundle.tN "SUPPRESSED_SENTINEL" Bundle.listD A U H ∧
  va_AO "SecretForces$Book" U ∧ va_AO "SecretForces$Plan" U ∧ va_AO "SecretForces$Notes" U ∧ va_AOA .int U ∧ va_AOA .long U
theorem xZ.call {A A' : Nat → Prop} {s U : State} {H : Heap} {locs : List Loc} (h : xZ A s s.heap) (hS : va_S A s.heap H locs) (hF : ∀ q, A' q → A q) (hW : s.WarmedH U.vm) : xZ A' U H := by
  obtain ⟨⟨adK, adV, h1, h2⟩, h3, h4, h5, h6, h7, h8, h9, h10, h11⟩ := h
  exact ⟨⟨adK, adV, ((h1.kept hS.2.1).moved hW.alike).narrow hF, fun i hi => vk_R.warm hW (h2 i hi)⟩, ((h3.kept hS.2.1).moved hW.alike).narrow hF, ((h4.kept hS.2.1).moved hW.alike).narrow hF, ((h5.kept hS.2.1).moved hW.alike).narrow hF, ((h6.kept hS.2.1).moved hW.alike).narrow hF, va_AO.moved hW.alike h7, va_AO.moved hW.alike h8, va_AO.moved hW.alike h9, va_AOA.moved hW.alike h10, va_AOA.moved hW.alike h11⟩
theorem xZ.blind {A : Nat → Prop} {U U' : State} {H : Heap} (h : xZ A U H) (e : U.vm = U'.vm) : xZ A U' H := by
  obtain ⟨⟨adK, adV, h1, h2⟩, h3, h4, h5, h6, h7, h8, h9, h10, h11⟩ := h
  have ea : U.vm.Alike U'.vm := by rw [← e]; exact Vm.Alike.refl U.vm
  exact ⟨⟨adK, adV, vk_S.moved ea h1, fun i hi => vk_R.same e.symm (h2 i hi)⟩, va_Z.moved ea h3, va_Zq.moved ea h4, vx_Zq.moved ea h5, vx_Zq.moved ea h6, va_AO.moved ea h7, va_AO.moved ea h8, va_AO.moved ea h9, va_AOA.moved ea h10, va_AOA.moved ea h11⟩
def xKK (dC : Nat → ClassId) (dI : Nat → Nat → Nat) (aC : Nat → ClassId) (A : Nat → Prop) (U : State) (H : Heap) : Prop := va_K (dC, dI) vwCl (xT aC) U ∧ xNs U ∧ xZ A U H
theorem xKK.call {dC : Nat → ClassId} {dI : Nat → Nat → Nat} {aC : Nat → ClassId} {A A' : Nat → Prop} {s U : State} {H : Heap} {locs : List Loc} (h : xKK dC dI aC A s s.heap) (hS : va_S A s.heap H locs) (hF : ∀ q, A' q → A q) (hW : s.WarmedH U.vm) : xKK dC dI aC A' U H := ⟨va_K.moved hW.alike h.1, fun q hq => va_Nw.warmM hW (h.2.1 q hq), h.2.2.call hS hF hW⟩
theorem xKK.blind {dC : Nat → ClassId} {dI : Nat → Nat → Nat} {aC : Nat → ClassId} {A : Nat → Prop} {U U' : State} {H : Heap} (h : xKK dC dI aC A U H) (e : U.vm = U'.vm) : xKK dC dI aC A U' H := ⟨va_K.moved (by rw [← e]; exact Vm.Alike.refl U.vm) h.1, fun q hq => va_Nw.same rfl e (h.2.1 q hq), h.2.2.blind e⟩
/-- a method: its code, its locals, its class, its depth, its cells and slots -/
abbrev xJ : Type := ByteArray × Nat × String × Nat × Nat × Nat
def xR (d mc ms : Nat) : Room := { frames := d, cells := mc, slots := ms, locals := 41 * d + 32 }
abbrev xX : Type := (Program × Launch × Env × State × MethodId) × (Array Value × List Frame × Method × Code) × ((Nat → ClassId) × (Nat → Nat → Nat) × (Nat → ClassId)) × (Nat → Nat) × (Nat → Prop) × (State → Prop)
def xV (J : xJ) (X : xX) (n k : Nat) (h : xHp) (pc : Nat) (L : List (Nat × Value)) (st : List Value) : Prop := match X with
  | ((p, l, e, s, m), (args, below, meth, c), (dC, dI, aC), r, A, Q) =>
    CallFix p m c J.1 J.2.1 s args wsL_law0 J.2.2.1 → xKK dC dI aC A s s.heap → (∀ q : Nat, s.heap.size ≤ q → A q) →
    ∀ (H : Heap) (locs : List Loc) (ls : Array Slot), va_P (dC, dI) vwCl (xH aC r h) H → va_D A (xH aC r h) → va_S A s.heap H locs → lv_has ls J.2.1 (xL r L) →
    W p l e (xR J.2.2.2.1 J.2.2.2.2.1 J.2.2.2.2.2) s m args below meth c H locs n k Q (F0 m pc ls (st.map (xv r)))
theorem xH_at {aC : Nat → ClassId} {r : Nat → Nat} {h : xHp} {k : Nat} {c : xE} (e : h[k]? = some c) : (xH aC r h)[k]? = some (r k, xc aC (xe r c)) := by
  unfold xH; rw [List.getElem?_mapIdx, e]; rfl
theorem xH_set {aC : Nat → ClassId} {r : Nat → Nat} {h : xHp} {k : Nat} {c : xE} : (xH aC r h).set k (r k, xc aC (xe r c)) = xH aC r (h.set k c) := by
  apply List.ext_getElem?
  intro i
  unfold xH
  rw [List.getElem?_set, List.getElem?_mapIdx, List.getElem?_mapIdx, List.getElem?_set]
  by_cases hi : k = i
  · subst hi
    simp only [List.length_mapIdx, if_true]
    split <;> rfl
  · simp only [if_neg hi]
theorem xT_at {aC : Nat → ClassId} {k : Nat} {t : FieldType} (e : xKs[k]? = some t) : (xT aC)[k]? = some (aC k, t) := by
  unfold xT; rw [List.getElem?_mapIdx, e]; rfl
theorem xL_at {r : Nat → Nat} {L : List (Nat × Value)} {k i : Nat} {v : Value} (e : L[k]? = some (i, v)) : (xL r L)[k]? = some (i, xv r v) := by
  unfold xL; rw [List.getElem?_map, e]; rfl
theorem xL_filter {r : Nat → Nat} (f : Nat → Nat → Bool) : ∀ L : List (Nat × Value), xL r (L.filter (fun q => f q.1 q.2.category)) = (xL r L).filter (fun q => f q.1 q.2.category)
  | [] => rfl
  | (i, v) :: L => by
    have hc : (xv r v).category = v.category := by cases v <;> rfl
    have ih := xL_filter (r := r) f L
    unfold xL at ih ⊢
    simp only [List.filter_cons, List.map_cons, hc]
    split
    · simp only [List.map_cons, ih]
    · exact ih
theorem xv_cat (r : Nat → Nat) (v : Value) : (xv r v).category = v.category := by cases v <;> rfl
def xSt1 (L : List (Nat × Value)) (i : Nat) (v : Value) : List (Nat × Value) := (i, v) :: L.filter (fun q => !(q.1 == i) && !(q.1 + 1 == i && q.2.category == 2))
def xSt2 (L : List (Nat × Value)) (i : Nat) (v : Value) : List (Nat × Value) := (i, v) :: L.filter (fun q => !(q.1 == i) && (!(q.1 == i + 1) && !(q.1 + 1 == i && q.2.category == 2)))
theorem xSt1_L {r : Nat → Nat} {L : List (Nat × Value)} {i : Nat} {v : Value} : (i, xv r v) :: (xL r L).filter (fun q => !(q.1 == i) && !(q.1 + 1 == i && q.2.category == 2)) = xL r (xSt1 L i v) := by
  have := xL_filter (r := r) (fun a b => !(a == i) && !(a + 1 == i && b == 2)) L
  unfold xSt1
  rw [← this]; rfl
theorem xSt2_L {r : Nat → Nat} {L : List (Nat × Value)} {i : Nat} {v : Value} : (i, xv r v) :: (xL r L).filter (fun q => !(q.1 == i) && (!(q.1 == i + 1) && !(q.1 + 1 == i && q.2.category == 2))) = xL r (xSt2 L i v) := by
  have := xL_filter (r := r) (fun a b => !(a == i) && (!(a == i + 1) && !(a + 1 == i && b == 2))) L
  unfold xSt2
  rw [← this]; rfl
section XR
variable {J : xJ} {X : xX} {n k : Nat} {h : xHp} {pc pc' : Nat} {L : List (Nat × Value)} {st : List Value}
theorem xV_iconst (o : Nat) (ho : pc + 1 = o) {a : Int} {v : Int32} (hd : decode J.1 pc = .ok (.iconst a, 1)) (hv : Int32.ofInt a = v) (kk : xV J X n k h o L (.int v :: st)) : xV J X n k h pc L st := by
  subst ho
  obtain ⟨⟨p, l, e, s, m⟩, ⟨args, below, meth, c⟩, ⟨dC, dI, aC⟩, r, A, Q⟩ := X
  intro S hK hA H locs ls hP hD hS hl
  exact lv_iconst S.1 S.2.1 hd hv (kk S hK hA H locs ls hP hD hS hl)
theorem xV_bipush (o : Nat) (ho : pc + 2 = o) {a : Int} {v : Int32} (hd : decode J.1 pc = .ok (.bipush a, 2)) (hv : (Int8.ofInt a).toInt32 = v) (kk : xV J X n k h o L (.int v :: st)) : xV J X n k h pc L st := by
  subst ho
  obtain ⟨⟨p, l, e, s, m⟩, ⟨args, below, meth, c⟩, ⟨dC, dI, aC⟩, r, A, Q⟩ := X
  intro S hK hA H locs ls hP hD hS hl
  exact lv_bipush S.1 S.2.1 hd hv (kk S hK hA H locs ls hP hD hS hl)
theorem xV_sipush (o : Nat) (ho : pc + 3 = o) {a : Int} {v : Int32} (hd : decode J.1 pc = .ok (.sipush a, 3)) (hv : (Int16.ofInt a).toInt32 = v) (kk : xV J X n k h o L (.int v :: st)) : xV J X n k h pc L st := by
  subst ho
  obtain ⟨⟨p, l, e, s, m⟩, ⟨args, below, meth, c⟩, ⟨dC, dI, aC⟩, r, A, Q⟩ := X
  intro S hK hA H locs ls hP hD hS hl
  exact lv_sipush S.1 S.2.1 hd hv (kk S hK hA H locs ls hP hD hS hl)
theorem xV_lconst (o : Nat) (ho : pc + 1 = o) {a : Fin 2} {v : Int64} (hd : decode J.1 pc = .ok (.lconst a, 1)) (hv : Int64.ofNat (a : Nat) = v) (kk : xV J X n k h o L (.long v :: st)) : xV J X n k h pc L st := by
  subst ho
  obtain ⟨⟨p, l, e, s, m⟩, ⟨args, below, meth, c⟩, ⟨dC, dI, aC⟩, r, A, Q⟩ := X
  intro S hK hA H locs ls hP hD hS hl
  exact lv_lconst S.1 S.2.1 hd hv (kk S hK hA H locs ls hP hD hS hl)
theorem xV_ldc (o : Nat) (ho : pc + 2 = o) {index : Nat} {v : Int32} (hd : decode J.1 pc = .ok (.ldc index, 2)) (hw : Jvm.Cond.constant J.2.2.1 index v ∈ wsL_law0) (kk : xV J X n k h o L (.int v :: st)) : xV J X n k h pc L st := by
  subst ho
  obtain ⟨⟨p, l, e, s, m⟩, ⟨args, below, meth, c⟩, ⟨dC, dI, aC⟩, r, A, Q⟩ := X
  intro S hK hA H locs ls hP hD hS hl
  exact lv_ldc S.1 S.2.1 S.2.2.2.1 (S.2.2.2.2 _ hw) hd (kk S hK hA H locs ls hP hD hS hl)
theorem xV_ldcw (o : Nat) (ho : pc + 3 = o) {index : Nat} {v : Int32} (hd : decode J.1 pc = .ok (.ldc_w index, 3)) (hw : Jvm.Cond.constant J.2.2.1 index v ∈ wsL_law0) (kk : xV J X n k h o L (.int v :: st)) : xV J X n k h pc L st := by
  subst ho
  obtain ⟨⟨p, l, e, s, m⟩, ⟨args, below, meth, c⟩, ⟨dC, dI, aC⟩, r, A, Q⟩ := X
  intro S hK hA H locs ls hP hD hS hl
  exact lv_ldcw S.1 S.2.1 S.2.2.2.1 (S.2.2.2.2 _ hw) hd (kk S hK hA H locs ls hP hD hS hl)
theorem xV_ldc2 (o : Nat) (ho : pc + 3 = o) {index : Nat} {v : Int64} (hd : decode J.1 pc = .ok (.ldc2_w index, 3)) (hw : Jvm.Cond.constantLong J.2.2.1 index v ∈ wsL_law0) (kk : xV J X n k h o L (.long v :: st)) : xV J X n k h pc L st := by
  subst ho
  obtain ⟨⟨p, l, e, s, m⟩, ⟨args, below, meth, c⟩, ⟨dC, dI, aC⟩, r, A, Q⟩ := X
  intro S hK hA H locs ls hP hD hS hl
  exact lv_ldc2 S.1 S.2.1 S.2.2.2.1 (S.2.2.2.2 _ hw) hd (kk S hK hA H locs ls hP hD hS hl)
theorem xV_iload_n (o : Nat) (ho : pc + 1 = o) {a : Fin 4} {i : Nat} {v : Int32} (hd : decode J.1 pc = .ok (.iload_n a, 1)) (hi : (a : Nat) = i) (q : Nat) (hl : L[q]? = some (i, .int v)) (kk : xV J X n k h o L (.int v :: st)) : xV J X n k h pc L st := by
  subst ho
  obtain ⟨⟨p, l, e, s, m⟩, ⟨args, below, meth, c⟩, ⟨dC, dI, aC⟩, r, A, Q⟩ := X
  intro S hK hA H locs ls hP hD hS hl2
  exact lv_iload_n S.1 S.2.1 hd hi (lv_at hl2 q (xL_at hl)) (kk S hK hA H locs ls hP hD hS hl2)
theorem xV_iload (o : Nat) (ho : pc + 2 = o) {i : Nat} {v : Int32} (hd : decode J.1 pc = .ok (.iload i, 2)) (q : Nat) (hl : L[q]? = some (i, .int v)) (kk : xV J X n k h o L (.int v :: st)) : xV J X n k h pc L st := by
  subst ho
  obtain ⟨⟨p, l, e, s, m⟩, ⟨args, below, meth, c⟩, ⟨dC, dI, aC⟩, r, A, Q⟩ := X
  intro S hK hA H locs ls hP hD hS hl2
  exact lv_iload S.1 S.2.1 hd (lv_at hl2 q (xL_at hl)) (kk S hK hA H locs ls hP hD hS hl2)
theorem xV_lload_n (o : Nat) (ho : pc + 1 = o) {a : Fin 4} {i : Nat} {v : Int64} (hd : decode J.1 pc = .ok (.lload_n a, 1)) (hi : (a : Nat) = i) (q : Nat) (hl : L[q]? = some (i, .long v)) (kk : xV J X n k h o L (.long v :: st)) : xV J X n k h pc L st := by
  subst ho
  obtain ⟨⟨p, l, e, s, m⟩, ⟨args, below, meth, c⟩, ⟨dC, dI, aC⟩, r, A, Q⟩ := X
  intro S hK hA H locs ls hP hD hS hl2
  exact lv_lload_n S.1 S.2.1 hd hi (lv_at hl2 q (xL_at hl)) (kk S hK hA H locs ls hP hD hS hl2)
theorem xV_lload (o : Nat) (ho : pc + 2 = o) {i : Nat} {v : Int64} (hd : decode J.1 pc = .ok (.lload i, 2)) (q : Nat) (hl : L[q]? = some (i, .long v)) (kk : xV J X n k h o L (.long v :: st)) : xV J X n k h pc L st := by
  subst ho
  obtain ⟨⟨p, l, e, s, m⟩, ⟨args, below, meth, c⟩, ⟨dC, dI, aC⟩, r, A, Q⟩ := X
  intro S hK hA H locs ls hP hD hS hl2
  exact lv_lload S.1 S.2.1 hd (lv_at hl2 q (xL_at hl)) (kk S hK hA H locs ls hP hD hS hl2)
theorem xV_aload_n (o : Nat) (ho : pc + 1 = o) {a : Fin 4} {i v : Nat} (hd : decode J.1 pc = .ok (.aload_n a, 1)) (hi : (a : Nat) = i) (q : Nat) (hl : L[q]? = some (i, .ref v)) (kk : xV J X n k h o L (.ref v :: st)) : xV J X n k h pc L st := by
  subst ho
  obtain ⟨⟨p, l, e, s, m⟩, ⟨args, below, meth, c⟩, ⟨dC, dI, aC⟩, r, A, Q⟩ := X
  intro S hK hA H locs ls hP hD hS hl2
  exact lv_aload_n S.1 S.2.1 hd hi (lv_at hl2 q (xL_at hl)) (kk S hK hA H locs ls hP hD hS hl2)
theorem xV_aload (o : Nat) (ho : pc + 2 = o) {i v : Nat} (hd : decode J.1 pc = .ok (.aload i, 2)) (q : Nat) (hl : L[q]? = some (i, .ref v)) (kk : xV J X n k h o L (.ref v :: st)) : xV J X n k h pc L st := by
  subst ho
  obtain ⟨⟨p, l, e, s, m⟩, ⟨args, below, meth, c⟩, ⟨dC, dI, aC⟩, r, A, Q⟩ := X
  intro S hK hA H locs ls hP hD hS hl2
  exact lv_aload S.1 S.2.1 hd (lv_at hl2 q (xL_at hl)) (kk S hK hA H locs ls hP hD hS hl2)
theorem xV_istore_n (o : Nat) (ho : pc + 1 = o) {a : Fin 4} {i : Nat} {v : Int32} {L' : List (Nat × Value)} (hd : decode J.1 pc = .ok (.istore_n a, 1)) (hi : (a : Nat) = i) (hn : i < J.2.1) (hL : xSt1 L i (.int v) = L') (kk : xV J X n k h o L' st) : xV J X n k h pc L (.int v :: st) := by
  subst ho
  obtain ⟨⟨p, l, e, s, m⟩, ⟨args, below, meth, c⟩, ⟨dC, dI, aC⟩, r, A, Q⟩ := X
  intro S hK hA H locs ls hP hD hS hl2
  subst hL
  exact lv_istore_n S.1 S.2.1 hd hi hl2 hn (xSt1_L (v := .int v)) (fun ls hl => kk S hK hA H locs ls hP hD hS hl)
theorem xV_istore (o : Nat) (ho : pc + 2 = o) {i : Nat} {v : Int32} {L' : List (Nat × Value)} (hd : decode J.1 pc = .ok (.istore i, 2)) (hn : i < J.2.1) (hL : xSt1 L i (.int v) = L') (kk : xV J X n k h o L' st) : xV J X n k h pc L (.int v :: st) := by
  subst ho
  obtain ⟨⟨p, l, e, s, m⟩, ⟨args, below, meth, c⟩, ⟨dC, dI, aC⟩, r, A, Q⟩ := X
  intro S hK hA H locs ls hP hD hS hl2
  subst hL
  exact lv_istore S.1 S.2.1 hd hl2 hn (xSt1_L (v := .int v)) (fun ls hl => kk S hK hA H locs ls hP hD hS hl)
theorem xV_lstore_n (o : Nat) (ho : pc + 1 = o) {a : Fin 4} {i : Nat} {v : Int64} {L' : List (Nat × Value)} (hd : decode J.1 pc = .ok (.lstore_n a, 1)) (hi : (a : Nat) = i) (hn : i + 1 < J.2.1) (hL : xSt2 L i (.long v) = L') (kk : xV J X n k h o L' st) : xV J X n k h pc L (.long v :: st) := by
  subst ho
  obtain ⟨⟨p, l, e, s, m⟩, ⟨args, below, meth, c⟩, ⟨dC, dI, aC⟩, r, A, Q⟩ := X
  intro S hK hA H locs ls hP hD hS hl2
  subst hL
  exact lv_lstore_n S.1 S.2.1 hd hi hl2 hn (xSt2_L (v := .long v)) (fun ls hl => kk S hK hA H locs ls hP hD hS hl)
theorem xV_lstore (o : Nat) (ho : pc + 2 = o) {i : Nat} {v : Int64} {L' : List (Nat × Value)} (hd : decode J.1 pc = .ok (.lstore i, 2)) (hn : i + 1 < J.2.1) (hL : xSt2 L i (.long v) = L') (kk : xV J X n k h o L' st) : xV J X n k h pc L (.long v :: st) := by
  subst ho
  obtain ⟨⟨p, l, e, s, m⟩, ⟨args, below, meth, c⟩, ⟨dC, dI, aC⟩, r, A, Q⟩ := X
  intro S hK hA H locs ls hP hD hS hl2
  subst hL
  exact lv_lstore S.1 S.2.1 hd hl2 hn (xSt2_L (v := .long v)) (fun ls hl => kk S hK hA H locs ls hP hD hS hl)
theorem xV_astore_n (o : Nat) (ho : pc + 1 = o) {a : Fin 4} {i v : Nat} {L' : List (Nat × Value)} (hd : decode J.1 pc = .ok (.astore_n a, 1)) (hi : (a : Nat) = i) (hn : i < J.2.1) (hL : xSt1 L i (.ref v) = L') (kk : xV J X n k h o L' st) : xV J X n k h pc L (.ref v :: st) := by
  subst ho
  obtain ⟨⟨p, l, e, s, m⟩, ⟨args, below, meth, c⟩, ⟨dC, dI, aC⟩, r, A, Q⟩ := X
  intro S hK hA H locs ls hP hD hS hl2
  subst hL
  exact lv_astore_n S.1 S.2.1 hd hi hl2 hn (xSt1_L (v := .ref v)) (fun ls hl => kk S hK hA H locs ls hP hD hS hl)
theorem xV_astore (o : Nat) (ho : pc + 2 = o) {i v : Nat} {L' : List (Nat × Value)} (hd : decode J.1 pc = .ok (.astore i, 2)) (hn : i < J.2.1) (hL : xSt1 L i (.ref v) = L') (kk : xV J X n k h o L' st) : xV J X n k h pc L (.ref v :: st) := by
  subst ho
  obtain ⟨⟨p, l, e, s, m⟩, ⟨args, below, meth, c⟩, ⟨dC, dI, aC⟩, r, A, Q⟩ := X
  intro S hK hA H locs ls hP hD hS hl2
  subst hL
  exact lv_astore S.1 S.2.1 hd hl2 hn (xSt1_L (v := .ref v)) (fun ls hl => kk S hK hA H locs ls hP hD hS hl)
theorem xV_iinc (o : Nat) (ho : pc + 3 = o) {i : Nat} {a : Int} {v w : Int32} {L' : List (Nat × Value)} (hd : decode J.1 pc = .ok (.iinc i a, 3)) (q : Nat) (hq : L[q]? = some (i, .int v)) (hv : v + Int32.ofInt a = w) (hn : i < J.2.1) (hL : xSt1 L i (.int w) = L') (kk : xV J X n k h o L' st) : xV J X n k h pc L st := by
  subst ho
  obtain ⟨⟨p, l, e, s, m⟩, ⟨args, below, meth, c⟩, ⟨dC, dI, aC⟩, r, A, Q⟩ := X
  intro S hK hA H locs ls hP hD hS hl2
  subst hL
  exact lv_iinc S.1 S.2.1 hd hl2 (xL_at hq) hv hn (xSt1_L (v := .int w)) (fun ls hl => kk S hK hA H locs ls hP hD hS hl)
theorem xV_iadd (o : Nat) (ho : pc + 1 = o) {x y : Int32} (hd : decode J.1 pc = .ok (.iadd, 1)) (kk : xV J X n k h o L (.int (x + y) :: st)) : xV J X n k h pc L (.int y :: .int x :: st) := by
  subst ho
  obtain ⟨⟨p, l, e, s, m⟩, ⟨args, below, meth, c⟩, ⟨dC, dI, aC⟩, r, A, Q⟩ := X
  intro S hK hA H locs ls hP hD hS hl
  exact lv_iadd S.1 S.2.1 hd (kk S hK hA H locs ls hP hD hS hl)
theorem xV_isub (o : Nat) (ho : pc + 1 = o) {x y : Int32} (hd : decode J.1 pc = .ok (.isub, 1)) (kk : xV J X n k h o L (.int (x - y) :: st)) : xV J X n k h pc L (.int y :: .int x :: st) := by
  subst ho
  obtain ⟨⟨p, l, e, s, m⟩, ⟨args, below, meth, c⟩, ⟨dC, dI, aC⟩, r, A, Q⟩ := X
  intro S hK hA H locs ls hP hD hS hl
  exact lv_isub S.1 S.2.1 hd (kk S hK hA H locs ls hP hD hS hl)
theorem xV_imul (o : Nat) (ho : pc + 1 = o) {x y : Int32} (hd : decode J.1 pc = .ok (.imul, 1)) (kk : xV J X n k h o L (.int (x * y) :: st)) : xV J X n k h pc L (.int y :: .int x :: st) := by
  subst ho
  obtain ⟨⟨p, l, e, s, m⟩, ⟨args, below, meth, c⟩, ⟨dC, dI, aC⟩, r, A, Q⟩ := X
  intro S hK hA H locs ls hP hD hS hl
  exact lv_imul S.1 S.2.1 hd (kk S hK hA H locs ls hP hD hS hl)
theorem xV_iand (o : Nat) (ho : pc + 1 = o) {x y : Int32} (hd : decode J.1 pc = .ok (.iand, 1)) (kk : xV J X n k h o L (.int (x &&& y) :: st)) : xV J X n k h pc L (.int y :: .int x :: st) := by
  subst ho
  obtain ⟨⟨p, l, e, s, m⟩, ⟨args, below, meth, c⟩, ⟨dC, dI, aC⟩, r, A, Q⟩ := X
  intro S hK hA H locs ls hP hD hS hl
  exact lv_iand S.1 S.2.1 hd (kk S hK hA H locs ls hP hD hS hl)
theorem xV_idiv (o : Nat) (ho : pc + 1 = o) {x y : Int32} (hd : decode J.1 pc = .ok (.idiv, 1)) (hne : ¬ y = 0) (kk : xV J X n k h o L (.int (x / y) :: st)) : xV J X n k h pc L (.int y :: .int x :: st) := by
  subst ho
  obtain ⟨⟨p, l, e, s, m⟩, ⟨args, below, meth, c⟩, ⟨dC, dI, aC⟩, r, A, Q⟩ := X
  intro S hK hA H locs ls hP hD hS hl
  exact lv_idiv S.1 S.2.1 hd hne (kk S hK hA H locs ls hP hD hS hl)
theorem xV_irem (o : Nat) (ho : pc + 1 = o) {x y : Int32} (hd : decode J.1 pc = .ok (.irem, 1)) (hne : ¬ y = 0) (kk : xV J X n k h o L (.int (x - x / y * y) :: st)) : xV J X n k h pc L (.int y :: .int x :: st) := by
  subst ho
  obtain ⟨⟨p, l, e, s, m⟩, ⟨args, below, meth, c⟩, ⟨dC, dI, aC⟩, r, A, Q⟩ := X
  intro S hK hA H locs ls hP hD hS hl
  exact lv_irem S.1 S.2.1 hd hne (kk S hK hA H locs ls hP hD hS hl)
theorem xV_ishl (o : Nat) (ho : pc + 1 = o) {x y : Int32} (hd : decode J.1 pc = .ok (.ishl, 1)) (kk : xV J X n k h o L (.int (x <<< (y &&& 31)) :: st)) : xV J X n k h pc L (.int y :: .int x :: st) := by
  subst ho
  obtain ⟨⟨p, l, e, s, m⟩, ⟨args, below, meth, c⟩, ⟨dC, dI, aC⟩, r, A, Q⟩ := X
  intro S hK hA H locs ls hP hD hS hl
  exact lv_ishl S.1 S.2.1 hd (kk S hK hA H locs ls hP hD hS hl)
theorem xV_ishr (o : Nat) (ho : pc + 1 = o) {x y : Int32} (hd : decode J.1 pc = .ok (.ishr, 1)) (kk : xV J X n k h o L (.int (x >>> (y &&& 31)) :: st)) : xV J X n k h pc L (.int y :: .int x :: st) := by
  subst ho
  obtain ⟨⟨p, l, e, s, m⟩, ⟨args, below, meth, c⟩, ⟨dC, dI, aC⟩, r, A, Q⟩ := X
  intro S hK hA H locs ls hP hD hS hl
  exact lv_ishr S.1 S.2.1 hd (kk S hK hA H locs ls hP hD hS hl)
theorem xV_ladd (o : Nat) (ho : pc + 1 = o) {x y : Int64} (hd : decode J.1 pc = .ok (.ladd, 1)) (kk : xV J X n k h o L (.long (x + y) :: st)) : xV J X n k h pc L (.long y :: .long x :: st) := by
  subst ho
  obtain ⟨⟨p, l, e, s, m⟩, ⟨args, below, meth, c⟩, ⟨dC, dI, aC⟩, r, A, Q⟩ := X
  intro S hK hA H locs ls hP hD hS hl
  exact lv_ladd S.1 S.2.1 hd (kk S hK hA H locs ls hP hD hS hl)
theorem xV_lsub (o : Nat) (ho : pc + 1 = o) {x y : Int64} (hd : decode J.1 pc = .ok (.lsub, 1)) (kk : xV J X n k h o L (.long (x - y) :: st)) : xV J X n k h pc L (.long y :: .long x :: st) := by
  subst ho
  obtain ⟨⟨p, l, e, s, m⟩, ⟨args, below, meth, c⟩, ⟨dC, dI, aC⟩, r, A, Q⟩ := X
  intro S hK hA H locs ls hP hD hS hl
  exact lv_lsub S.1 S.2.1 hd (kk S hK hA H locs ls hP hD hS hl)
theorem xV_lmul (o : Nat) (ho : pc + 1 = o) {x y : Int64} (hd : decode J.1 pc = .ok (.lmul, 1)) (kk : xV J X n k h o L (.long (x * y) :: st)) : xV J X n k h pc L (.long y :: .long x :: st) := by
  subst ho
  obtain ⟨⟨p, l, e, s, m⟩, ⟨args, below, meth, c⟩, ⟨dC, dI, aC⟩, r, A, Q⟩ := X
  intro S hK hA H locs ls hP hD hS hl
  exact lv_lmul S.1 S.2.1 hd (kk S hK hA H locs ls hP hD hS hl)
theorem xV_ldiv (o : Nat) (ho : pc + 1 = o) {x y : Int64} (hd : decode J.1 pc = .ok (.ldiv, 1)) (hne : ¬ y = 0) (kk : xV J X n k h o L (.long (x / y) :: st)) : xV J X n k h pc L (.long y :: .long x :: st) := by
  subst ho
  obtain ⟨⟨p, l, e, s, m⟩, ⟨args, below, meth, c⟩, ⟨dC, dI, aC⟩, r, A, Q⟩ := X
  intro S hK hA H locs ls hP hD hS hl
  exact lv_ldiv S.1 S.2.1 hd hne (kk S hK hA H locs ls hP hD hS hl)
theorem xV_lrem (o : Nat) (ho : pc + 1 = o) {x y : Int64} (hd : decode J.1 pc = .ok (.lrem, 1)) (hne : ¬ y = 0) (kk : xV J X n k h o L (.long (x - x / y * y) :: st)) : xV J X n k h pc L (.long y :: .long x :: st) := by
  subst ho
  obtain ⟨⟨p, l, e, s, m⟩, ⟨args, below, meth, c⟩, ⟨dC, dI, aC⟩, r, A, Q⟩ := X
  intro S hK hA H locs ls hP hD hS hl
  exact lv_lrem S.1 S.2.1 hd hne (kk S hK hA H locs ls hP hD hS hl)
theorem xV_ineg (o : Nat) (ho : pc + 1 = o) {x : Int32} (hd : decode J.1 pc = .ok (.ineg, 1)) (kk : xV J X n k h o L (.int (-x) :: st)) : xV J X n k h pc L (.int x :: st) := by
  subst ho
  obtain ⟨⟨p, l, e, s, m⟩, ⟨args, below, meth, c⟩, ⟨dC, dI, aC⟩, r, A, Q⟩ := X
  intro S hK hA H locs ls hP hD hS hl
  exact lv_ineg S.1 S.2.1 hd (kk S hK hA H locs ls hP hD hS hl)
theorem xV_lneg (o : Nat) (ho : pc + 1 = o) {x : Int64} (hd : decode J.1 pc = .ok (.lneg, 1)) (kk : xV J X n k h o L (.long (-x) :: st)) : xV J X n k h pc L (.long x :: st) := by
  subst ho
  obtain ⟨⟨p, l, e, s, m⟩, ⟨args, below, meth, c⟩, ⟨dC, dI, aC⟩, r, A, Q⟩ := X
  intro S hK hA H locs ls hP hD hS hl
  exact lv_lneg S.1 S.2.1 hd (kk S hK hA H locs ls hP hD hS hl)
theorem xV_i2l (o : Nat) (ho : pc + 1 = o) {x : Int32} (hd : decode J.1 pc = .ok (.i2l, 1)) (kk : xV J X n k h o L (.long (x.toInt64) :: st)) : xV J X n k h pc L (.int x :: st) := by
  subst ho
  obtain ⟨⟨p, l, e, s, m⟩, ⟨args, below, meth, c⟩, ⟨dC, dI, aC⟩, r, A, Q⟩ := X
  intro S hK hA H locs ls hP hD hS hl
  exact lv_i2l S.1 S.2.1 hd rfl (kk S hK hA H locs ls hP hD hS hl)
theorem xV_l2i (o : Nat) (ho : pc + 1 = o) {x : Int64} (hd : decode J.1 pc = .ok (.l2i, 1)) (kk : xV J X n k h o L (.int (x.toInt32) :: st)) : xV J X n k h pc L (.long x :: st) := by
  subst ho
  obtain ⟨⟨p, l, e, s, m⟩, ⟨args, below, meth, c⟩, ⟨dC, dI, aC⟩, r, A, Q⟩ := X
  intro S hK hA H locs ls hP hD hS hl
  exact lv_l2i S.1 S.2.1 hd rfl (kk S hK hA H locs ls hP hD hS hl)
theorem xV_i2b (o : Nat) (ho : pc + 1 = o) {x : Int32} (hd : decode J.1 pc = .ok (.i2b, 1)) (kk : xV J X n k h o L (.int (x.toInt8.toInt32) :: st)) : xV J X n k h pc L (.int x :: st) := by
  subst ho
  obtain ⟨⟨p, l, e, s, m⟩, ⟨args, below, meth, c⟩, ⟨dC, dI, aC⟩, r, A, Q⟩ := X
  intro S hK hA H locs ls hP hD hS hl
  exact lv_i2b S.1 S.2.1 hd rfl (kk S hK hA H locs ls hP hD hS hl)
theorem xV_iushr (o : Nat) (ho : pc + 1 = o) {x y : Int32} (hd : decode J.1 pc = .ok (.iushr, 1)) (kk : xV J X n k h o L (.int ((x.toUInt32 >>> (y.toUInt32 &&& Int32.toUInt32 31)).toInt32) :: st)) : xV J X n k h pc L (.int y :: .int x :: st) := by
  subst ho
  obtain ⟨⟨p, l, e, s, m⟩, ⟨args, below, meth, c⟩, ⟨dC, dI, aC⟩, r, A, Q⟩ := X
  intro S hK hA H locs ls hP hD hS hl
  exact lv_iushr S.1 S.2.1 hd rfl (kk S hK hA H locs ls hP hD hS hl)
theorem xV_lcmp (o : Nat) (ho : pc + 1 = o) {x y : Int64} (hd : decode J.1 pc = .ok (.lcmp, 1)) (kk : xV J X n k h o L (.int (lg_cmp x y) :: st)) : xV J X n k h pc L (.long y :: .long x :: st) := by
  subst ho
  obtain ⟨⟨p, l, e, s, m⟩, ⟨args, below, meth, c⟩, ⟨dC, dI, aC⟩, r, A, Q⟩ := X
  intro S hK hA H locs ls hP hD hS hl
  exact W.lcmp S.1 S.2.1 hd (kk S hK hA H locs ls hP hD hS hl)
theorem xV_dup (o : Nat) (ho : pc + 1 = o) {v : Value} (hd : decode J.1 pc = .ok (.dup, 1)) (hv : v.category = 1) (kk : xV J X n k h o L (v :: v :: st)) : xV J X n k h pc L (v :: st) := by
  subst ho
  obtain ⟨⟨p, l, e, s, m⟩, ⟨args, below, meth, c⟩, ⟨dC, dI, aC⟩, r, A, Q⟩ := X
  intro S hK hA H locs ls hP hD hS hl
  exact lv_dup S.1 S.2.1 hd ((xv_cat r v).trans hv) (kk S hK hA H locs ls hP hD hS hl)
theorem xV_dup2 (o : Nat) (ho : pc + 1 = o) {v w : Value} (hd : decode J.1 pc = .ok (.dup2, 1)) (hv : v.category = 1) (hw : w.category = 1) (kk : xV J X n k h o L (v :: w :: v :: w :: st)) : xV J X n k h pc L (v :: w :: st) := by
  subst ho
  obtain ⟨⟨p, l, e, s, m⟩, ⟨args, below, meth, c⟩, ⟨dC, dI, aC⟩, r, A, Q⟩ := X
  intro S hK hA H locs ls hP hD hS hl
  exact lv_dup2_11 S.1 S.2.1 hd ((xv_cat r v).trans hv) ((xv_cat r w).trans hw) (kk S hK hA H locs ls hP hD hS hl)
theorem xV_pop (o : Nat) (ho : pc + 1 = o) {v : Value} (hd : decode J.1 pc = .ok (.pop, 1)) (hv : v.category = 1) (kk : xV J X n k h o L st) : xV J X n k h pc L (v :: st) := by
  subst ho
  obtain ⟨⟨p, l, e, s, m⟩, ⟨args, below, meth, c⟩, ⟨dC, dI, aC⟩, r, A, Q⟩ := X
  intro S hK hA H locs ls hP hD hS hl
  exact lv_pop S.1 S.2.1 hd ((xv_cat r v).trans hv) (kk S hK hA H locs ls hP hD hS hl)
theorem xV_goto {off : Int} {tgt : Nat} (hd : decode J.1 pc = .ok (.goto off, 3)) (ht : (pc : Int) + off = (tgt : Int)) (kk : xV J X n k h tgt L st) : xV J X n k h pc L st := by
  obtain ⟨⟨p, l, e, s, m⟩, ⟨args, below, meth, c⟩, ⟨dC, dI, aC⟩, r, A, Q⟩ := X
  intro S hK hA H locs ls hP hD hS hl
  exact lv_goto S.1 S.2.1 hd ht (kk S hK hA H locs ls hP hD hS hl)
theorem xV_icmp_eq (o : Nat) (ho : pc + 3 = o) {x y : Int32} {off : Int} {tgt : Nat} (hd : decode J.1 pc = .ok (.if_icmp .eq off, 3)) (ht : (pc : Int) + off = (tgt : Int)) (kt : x = y → xV J X n k h tgt L st) (kf : ¬ x = y → xV J X n k h o L st) : xV J X n k h pc L (.int y :: .int x :: st) := by
  subst ho
  obtain ⟨⟨p, l, e, s, m⟩, ⟨args, below, meth, c⟩, ⟨dC, dI, aC⟩, r, A, Q⟩ := X
  intro S hK hA H locs ls hP hD hS hl
  exact lv_icmp_eq S.1 S.2.1 hd ht (fun q => kt q S hK hA H locs ls hP hD hS hl) (fun q => kf q S hK hA H locs ls hP hD hS hl)
theorem xV_if_eq (o : Nat) (ho : pc + 3 = o) {x : Int32} {off : Int} {tgt : Nat} (hd : decode J.1 pc = .ok (.ifCond .eq off, 3)) (ht : (pc : Int) + off = (tgt : Int)) (kt : x = 0 → xV J X n k h tgt L st) (kf : ¬ x = 0 → xV J X n k h o L st) : xV J X n k h pc L (.int x :: st) := by
  subst ho
  obtain ⟨⟨p, l, e, s, m⟩, ⟨args, below, meth, c⟩, ⟨dC, dI, aC⟩, r, A, Q⟩ := X
  intro S hK hA H locs ls hP hD hS hl
  exact lv_if_eq S.1 S.2.1 hd ht (fun q => kt q S hK hA H locs ls hP hD hS hl) (fun q => kf q S hK hA H locs ls hP hD hS hl)
theorem xV_icmp_ne (o : Nat) (ho : pc + 3 = o) {x y : Int32} {off : Int} {tgt : Nat} (hd : decode J.1 pc = .ok (.if_icmp .ne off, 3)) (ht : (pc : Int) + off = (tgt : Int)) (kt : ¬ x = y → xV J X n k h tgt L st) (kf : x = y → xV J X n k h o L st) : xV J X n k h pc L (.int y :: .int x :: st) := by
  subst ho
  obtain ⟨⟨p, l, e, s, m⟩, ⟨args, below, meth, c⟩, ⟨dC, dI, aC⟩, r, A, Q⟩ := X
  intro S hK hA H locs ls hP hD hS hl
  exact lv_icmp_ne S.1 S.2.1 hd ht (fun q => kt q S hK hA H locs ls hP hD hS hl) (fun q => kf q S hK hA H locs ls hP hD hS hl)
theorem xV_if_ne (o : Nat) (ho : pc + 3 = o) {x : Int32} {off : Int} {tgt : Nat} (hd : decode J.1 pc = .ok (.ifCond .ne off, 3)) (ht : (pc : Int) + off = (tgt : Int)) (kt : ¬ x = 0 → xV J X n k h tgt L st) (kf : x = 0 → xV J X n k h o L st) : xV J X n k h pc L (.int x :: st) := by
  subst ho
  obtain ⟨⟨p, l, e, s, m⟩, ⟨args, below, meth, c⟩, ⟨dC, dI, aC⟩, r, A, Q⟩ := X
  intro S hK hA H locs ls hP hD hS hl
  exact lv_if_ne S.1 S.2.1 hd ht (fun q => kt q S hK hA H locs ls hP hD hS hl) (fun q => kf q S hK hA H locs ls hP hD hS hl)
theorem xV_icmp_lt (o : Nat) (ho : pc + 3 = o) {x y : Int32} {off : Int} {tgt : Nat} (hd : decode J.1 pc = .ok (.if_icmp .lt off, 3)) (ht : (pc : Int) + off = (tgt : Int)) (kt : x < y → xV J X n k h tgt L st) (kf : ¬ x < y → xV J X n k h o L st) : xV J X n k h pc L (.int y :: .int x :: st) := by
  subst ho
  obtain ⟨⟨p, l, e, s, m⟩, ⟨args, below, meth, c⟩, ⟨dC, dI, aC⟩, r, A, Q⟩ := X
  intro S hK hA H locs ls hP hD hS hl
  exact lv_icmp_lt S.1 S.2.1 hd ht (fun q => kt q S hK hA H locs ls hP hD hS hl) (fun q => kf q S hK hA H locs ls hP hD hS hl)
theorem xV_if_lt (o : Nat) (ho : pc + 3 = o) {x : Int32} {off : Int} {tgt : Nat} (hd : decode J.1 pc = .ok (.ifCond .lt off, 3)) (ht : (pc : Int) + off = (tgt : Int)) (kt : x < 0 → xV J X n k h tgt L st) (kf : ¬ x < 0 → xV J X n k h o L st) : xV J X n k h pc L (.int x :: st) := by
  subst ho
  obtain ⟨⟨p, l, e, s, m⟩, ⟨args, below, meth, c⟩, ⟨dC, dI, aC⟩, r, A, Q⟩ := X
  intro S hK hA H locs ls hP hD hS hl
  exact lv_if_lt S.1 S.2.1 hd ht (fun q => kt q S hK hA H locs ls hP hD hS hl) (fun q => kf q S hK hA H locs ls hP hD hS hl)
theorem xV_icmp_ge (o : Nat) (ho : pc + 3 = o) {x y : Int32} {off : Int} {tgt : Nat} (hd : decode J.1 pc = .ok (.if_icmp .ge off, 3)) (ht : (pc : Int) + off = (tgt : Int)) (kt : y ≤ x → xV J X n k h tgt L st) (kf : ¬ y ≤ x → xV J X n k h o L st) : xV J X n k h pc L (.int y :: .int x :: st) := by
  subst ho
  obtain ⟨⟨p, l, e, s, m⟩, ⟨args, below, meth, c⟩, ⟨dC, dI, aC⟩, r, A, Q⟩ := X
  intro S hK hA H locs ls hP hD hS hl
  exact lv_icmp_ge S.1 S.2.1 hd ht (fun q => kt q S hK hA H locs ls hP hD hS hl) (fun q => kf q S hK hA H locs ls hP hD hS hl)
theorem xV_if_ge (o : Nat) (ho : pc + 3 = o) {x : Int32} {off : Int} {tgt : Nat} (hd : decode J.1 pc = .ok (.ifCond .ge off, 3)) (ht : (pc : Int) + off = (tgt : Int)) (kt : 0 ≤ x → xV J X n k h tgt L st) (kf : ¬ 0 ≤ x → xV J X n k h o L st) : xV J X n k h pc L (.int x :: st) := by
  subst ho
  obtain ⟨⟨p, l, e, s, m⟩, ⟨args, below, meth, c⟩, ⟨dC, dI, aC⟩, r, A, Q⟩ := X
  intro S hK hA H locs ls hP hD hS hl
  exact lv_if_ge S.1 S.2.1 hd ht (fun q => kt q S hK hA H locs ls hP hD hS hl) (fun q => kf q S hK hA H locs ls hP hD hS hl)
theorem xV_icmp_gt (o : Nat) (ho : pc + 3 = o) {x y : Int32} {off : Int} {tgt : Nat} (hd : decode J.1 pc = .ok (.if_icmp .gt off, 3)) (ht : (pc : Int) + off = (tgt : Int)) (kt : y < x → xV J X n k h tgt L st) (kf : ¬ y < x → xV J X n k h o L st) : xV J X n k h pc L (.int y :: .int x :: st) := by
  subst ho
  obtain ⟨⟨p, l, e, s, m⟩, ⟨args, below, meth, c⟩, ⟨dC, dI, aC⟩, r, A, Q⟩ := X
  intro S hK hA H locs ls hP hD hS hl
  exact lv_icmp_gt S.1 S.2.1 hd ht (fun q => kt q S hK hA H locs ls hP hD hS hl) (fun q => kf q S hK hA H locs ls hP hD hS hl)
theorem xV_if_gt (o : Nat) (ho : pc + 3 = o) {x : Int32} {off : Int} {tgt : Nat} (hd : decode J.1 pc = .ok (.ifCond .gt off, 3)) (ht : (pc : Int) + off = (tgt : Int)) (kt : 0 < x → xV J X n k h tgt L st) (kf : ¬ 0 < x → xV J X n k h o L st) : xV J X n k h pc L (.int x :: st) := by
  subst ho
  obtain ⟨⟨p, l, e, s, m⟩, ⟨args, below, meth, c⟩, ⟨dC, dI, aC⟩, r, A, Q⟩ := X
  intro S hK hA H locs ls hP hD hS hl
  exact lv_if_gt S.1 S.2.1 hd ht (fun q => kt q S hK hA H locs ls hP hD hS hl) (fun q => kf q S hK hA H locs ls hP hD hS hl)
theorem xV_icmp_le (o : Nat) (ho : pc + 3 = o) {x y : Int32} {off : Int} {tgt : Nat} (hd : decode J.1 pc = .ok (.if_icmp .le off, 3)) (ht : (pc : Int) + off = (tgt : Int)) (kt : x ≤ y → xV J X n k h tgt L st) (kf : ¬ x ≤ y → xV J X n k h o L st) : xV J X n k h pc L (.int y :: .int x :: st) := by
  subst ho
  obtain ⟨⟨p, l, e, s, m⟩, ⟨args, below, meth, c⟩, ⟨dC, dI, aC⟩, r, A, Q⟩ := X
  intro S hK hA H locs ls hP hD hS hl
  exact lv_icmp_le S.1 S.2.1 hd ht (fun q => kt q S hK hA H locs ls hP hD hS hl) (fun q => kf q S hK hA H locs ls hP hD hS hl)
theorem xV_if_le (o : Nat) (ho : pc + 3 = o) {x : Int32} {off : Int} {tgt : Nat} (hd : decode J.1 pc = .ok (.ifCond .le off, 3)) (ht : (pc : Int) + off = (tgt : Int)) (kt : x ≤ 0 → xV J X n k h tgt L st) (kf : ¬ x ≤ 0 → xV J X n k h o L st) : xV J X n k h pc L (.int x :: st) := by
  subst ho
  obtain ⟨⟨p, l, e, s, m⟩, ⟨args, below, meth, c⟩, ⟨dC, dI, aC⟩, r, A, Q⟩ := X
  intro S hK hA H locs ls hP hD hS hl
  exact lv_if_le S.1 S.2.1 hd ht (fun q => kt q S hK hA H locs ls hP hD hS hl) (fun q => kf q S hK hA H locs ls hP hD hS hl)
theorem xV_iaload (o : Nat) (ho : pc + 1 = o) {a z j : Nat} {i : Int32} {f : Nat → Int32} (hd : decode J.1 pc = .ok (.iaload, 1)) (hc : h[a]? = some (.inl (0, z, .inl f))) (hin : vp_in i z) (hj : i.toNatClampNeg = j) (kk : xV J X n k h o L (.int (f j) :: st)) : xV J X n k h pc L (.int i :: .ref a :: st) := by
  subst ho
  obtain ⟨⟨p, l, e, s, m⟩, ⟨args, below, meth, c⟩, ⟨dC, dI, aC⟩, r, A, Q⟩ := X
  intro S hK hA H locs ls hP hD hS hl
  subst hj
  exact va_iald S.1 S.2.1 hK.1 hP a 0 (xH_at hc) (xT_at rfl) hin hd (kk S hK hA H locs ls hP hD hS hl)
theorem xV_laload (o : Nat) (ho : pc + 1 = o) {a z j : Nat} {i : Int32} {f : Nat → Int64} (hd : decode J.1 pc = .ok (.laload, 1)) (hc : h[a]? = some (.inl (1, z, .inr (.inl f)))) (hin : vp_in i z) (hj : i.toNatClampNeg = j) (kk : xV J X n k h o L (.long (f j) :: st)) : xV J X n k h pc L (.int i :: .ref a :: st) := by
  subst ho
  obtain ⟨⟨p, l, e, s, m⟩, ⟨args, below, meth, c⟩, ⟨dC, dI, aC⟩, r, A, Q⟩ := X
  intro S hK hA H locs ls hP hD hS hl
  subst hj
  exact va_lald S.1 S.2.1 hK.1 hP a 1 (xH_at hc) (xT_at rfl) hin hd (kk S hK hA H locs ls hP hD hS hl)
theorem xV_baload (o : Nat) (ho : pc + 1 = o) {a z j : Nat} {i : Int32} {f : Nat → Int32} (hd : decode J.1 pc = .ok (.baload, 1)) (hc : h[a]? = some (.inl (2, z, .inl f))) (hin : vp_in i z) (hj : i.toNatClampNeg = j) (kk : xV J X n k h o L (.int (f j) :: st)) : xV J X n k h pc L (.int i :: .ref a :: st) := by
  subst ho
  obtain ⟨⟨p, l, e, s, m⟩, ⟨args, below, meth, c⟩, ⟨dC, dI, aC⟩, r, A, Q⟩ := X
  intro S hK hA H locs ls hP hD hS hl
  subst hj
  exact va_bald S.1 S.2.1 hK.1 hP a 2 (xH_at hc) (xT_at rfl) hin hd (kk S hK hA H locs ls hP hD hS hl)
theorem xV_zaload (o : Nat) (ho : pc + 1 = o) {a z j : Nat} {i : Int32} {f : Nat → Int32} (hd : decode J.1 pc = .ok (.baload, 1)) (hc : h[a]? = some (.inl (3, z, .inl f))) (hin : vp_in i z) (hj : i.toNatClampNeg = j) (kk : xV J X n k h o L (.int (f j) :: st)) : xV J X n k h pc L (.int i :: .ref a :: st) := by
  subst ho
  obtain ⟨⟨p, l, e, s, m⟩, ⟨args, below, meth, c⟩, ⟨dC, dI, aC⟩, r, A, Q⟩ := X
  intro S hK hA H locs ls hP hD hS hl
  subst hj
  exact va_zald S.1 S.2.1 hK.1 hP a 3 (xH_at hc) (xT_at rfl) hin hd (kk S hK hA H locs ls hP hD hS hl)
theorem xV_iastore (o : Nat) (ho : pc + 1 = o) {a z j : Nat} {i : Int32} {x : Int32} {f : Nat → Int32} {h' : xHp} (hd : decode J.1 pc = .ok (.iastore, 1)) (hc : h[a]? = some (.inl (0, z, .inl f))) (hin : vp_in i z) (hj : i.toNatClampNeg = j) (hh : h.set a (.inl (0, z, .inl (upd f j x))) = h') (kk : xV J X n k h' o L st) : xV J X n k h pc L (.int x :: .int i :: .ref a :: st) := by
  subst ho
  obtain ⟨⟨p, l, e, s, m⟩, ⟨args, below, meth, c⟩, ⟨dC, dI, aC⟩, r, A, Q⟩ := X
  intro S hK hA H locs ls hP hD hS hl
  subst hh
  subst hj
  refine va_iast S.1 S.2.1 hK.1 hP hD hS a 0 (xH_at hc) (xT_at rfl) hin hd (fun H1 locs1 hP1 hD1 hS1 => ?_)
  have e1 : (xH aC r h).set a (r a, .inl (aC 0, z, .inl (upd f i.toNatClampNeg x))) = xH aC r (h.set a (.inl (0, z, .inl (upd f i.toNatClampNeg x)))) := xH_set (c := (.inl (0, z, .inl (upd f i.toNatClampNeg x))))
  rw [e1] at hP1 hD1
  exact kk S hK hA H1 locs1 ls hP1 hD1 hS1 hl
theorem xV_lastore (o : Nat) (ho : pc + 1 = o) {a z j : Nat} {i : Int32} {x : Int64} {f : Nat → Int64} {h' : xHp} (hd : decode J.1 pc = .ok (.lastore, 1)) (hc : h[a]? = some (.inl (1, z, .inr (.inl f)))) (hin : vp_in i z) (hj : i.toNatClampNeg = j) (hh : h.set a (.inl (1, z, .inr (.inl (vp_updL f j x)))) = h') (kk : xV J X n k h' o L st) : xV J X n k h pc L (.long x :: .int i :: .ref a :: st) := by
  subst ho
  obtain ⟨⟨p, l, e, s, m⟩, ⟨args, below, meth, c⟩, ⟨dC, dI, aC⟩, r, A, Q⟩ := X
  intro S hK hA H locs ls hP hD hS hl
  subst hh
  subst hj
  refine va_last S.1 S.2.1 hK.1 hP hD hS a 1 (xH_at hc) (xT_at rfl) hin hd (fun H1 locs1 hP1 hD1 hS1 => ?_)
  have e1 : (xH aC r h).set a (r a, .inl (aC 1, z, .inr (.inl (vp_updL f i.toNatClampNeg x)))) = xH aC r (h.set a (.inl (1, z, .inr (.inl (vp_updL f i.toNatClampNeg x))))) := xH_set (c := (.inl (1, z, .inr (.inl (vp_updL f i.toNatClampNeg x)))))
  rw [e1] at hP1 hD1
  exact kk S hK hA H1 locs1 ls hP1 hD1 hS1 hl
theorem xV_bastore (o : Nat) (ho : pc + 1 = o) {a z j : Nat} {i : Int32} {x : Int32} {f : Nat → Int32} {h' : xHp} (hd : decode J.1 pc = .ok (.bastore, 1)) (hc : h[a]? = some (.inl (2, z, .inl f))) (hin : vp_in i z) (hj : i.toNatClampNeg = j) (hh : h.set a (.inl (2, z, .inl (upd f j (vp_nar .byte x)))) = h') (kk : xV J X n k h' o L st) : xV J X n k h pc L (.int x :: .int i :: .ref a :: st) := by
  subst ho
  obtain ⟨⟨p, l, e, s, m⟩, ⟨args, below, meth, c⟩, ⟨dC, dI, aC⟩, r, A, Q⟩ := X
  intro S hK hA H locs ls hP hD hS hl
  subst hh
  subst hj
  refine va_bast S.1 S.2.1 hK.1 hP hD hS a 2 (xH_at hc) (xT_at rfl) hin hd (fun H1 locs1 hP1 hD1 hS1 => ?_)
  have e1 : (xH aC r h).set a (r a, .inl (aC 2, z, .inl (upd f i.toNatClampNeg (vp_nar .byte x)))) = xH aC r (h.set a (.inl (2, z, .inl (upd f i.toNatClampNeg (vp_nar .byte x))))) := xH_set (c := (.inl (2, z, .inl (upd f i.toNatClampNeg (vp_nar .byte x)))))
  rw [e1] at hP1 hD1
  exact kk S hK hA H1 locs1 ls hP1 hD1 hS1 hl
theorem xV_zastore (o : Nat) (ho : pc + 1 = o) {a z j : Nat} {i : Int32} {x : Int32} {f : Nat → Int32} {h' : xHp} (hd : decode J.1 pc = .ok (.bastore, 1)) (hc : h[a]? = some (.inl (3, z, .inl f))) (hin : vp_in i z) (hj : i.toNatClampNeg = j) (hh : h.set a (.inl (3, z, .inl (upd f j (vp_nar .boolean x)))) = h') (kk : xV J X n k h' o L st) : xV J X n k h pc L (.int x :: .int i :: .ref a :: st) := by
  subst ho
  obtain ⟨⟨p, l, e, s, m⟩, ⟨args, below, meth, c⟩, ⟨dC, dI, aC⟩, r, A, Q⟩ := X
  intro S hK hA H locs ls hP hD hS hl
  subst hh
  subst hj
  refine va_zast S.1 S.2.1 hK.1 hP hD hS a 3 (xH_at hc) (xT_at rfl) hin hd (fun H1 locs1 hP1 hD1 hS1 => ?_)
  have e1 : (xH aC r h).set a (r a, .inl (aC 3, z, .inl (upd f i.toNatClampNeg (vp_nar .boolean x)))) = xH aC r (h.set a (.inl (3, z, .inl (upd f i.toNatClampNeg (vp_nar .boolean x))))) := xH_set (c := (.inl (3, z, .inl (upd f i.toNatClampNeg (vp_nar .boolean x)))))
  rw [e1] at hP1 hD1
  exact kk S hK hA H1 locs1 ls hP1 hD1 hS1 hl
theorem xV_aaload (o : Nat) (ho : pc + 1 = o) {a z b kd : Nat} {ty : FieldType} {i : Int32} {f : List Nat} (hd : decode J.1 pc = .ok (.aaload, 1)) (hc : h[a]? = some (.inl (kd, z, .inr (.inr f)))) (ht : xKs[kd]? = some ty) (hr : ty.isReference = true) (hin : vp_in i z) (hf : f[i.toNatClampNeg]? = some b) (kk : xV J X n k h o L (.ref b :: st)) : xV J X n k h pc L (.int i :: .ref a :: st) := by
  subst ho
  obtain ⟨⟨p, l, e, s, m⟩, ⟨args, below, meth, c⟩, ⟨dC, dI, aC⟩, r, A, Q⟩ := X
  intro S hK hA H locs ls hP hD hS hl
  have hlt : i.toNatClampNeg < z := Nat.not_le.mp fun q => hin (Or.inr q)
  have ha := xH_at (aC := aC) (r := r) hc
  refine W.aald (v := .ref (r b)) (ty := ty) S.1 S.2.1 (hP a _ ha) ((hK.1.2 kd _ (xT_at ht)).1 z (fun j => va_rf ((f.map r)[j]?))) hr (fun q => by cases q) (by show ¬ (i < 0 ∨ (arrV _ _ _).slots.size ≤ _); rw [arrV_size]; exact hin) (by show (arrV (aC kd) z (fun j => va_rf ((f.map r)[j]?))).slots[_]? = _; rw [arrV_read _ _ hlt, List.getElem?_map, hf]; rfl) rfl rfl hd (kk S hK hA H locs ls hP hD hS hl)
theorem xV_alen (o : Nat) (ho : pc + 1 = o) {a kd : Nat} {x : xAr} {ty : FieldType} {v : Int32} (hd : decode J.1 pc = .ok (.arraylength, 1)) (hc : h[a]? = some (.inl (kd, x))) (ht : xKs[kd]? = some ty) (hv : Int32.ofNat x.1 = v) (kk : xV J X n k h o L (.int v :: st)) : xV J X n k h pc L (.ref a :: st) := by
  subst ho
  obtain ⟨⟨p, l, e, s, m⟩, ⟨args, below, meth, c⟩, ⟨dC, dI, aC⟩, r, A, Q⟩ := X
  intro S hK hA H locs ls hP hD hS hl
  have e1 : (xca (xa r x)).1 = x.1 := by
    obtain ⟨z, y⟩ := x
    rcases y with y | y | y <;> rfl
  exact va_alen S.1 S.2.1 hK.1 hP a kd (xH_at hc) (xT_at ht) (v := v) (by rw [e1]; exact hv) hd (kk S hK hA H locs ls hP hD hS hl)
/-- a field by its link: the class's number, the field's number -/
def xFl (own : String) (idx ci k : Nat) : Prop := ∃ q : vw_C, vwCl[ci]? = some q ∧ k < q.2.2 ∧ Cond.fieldLink own idx (q.2.1 k).1 (q.2.1 k).2.1 (q.2.1 k).2.2.1 ∈ wsL_law0
def xTy (ci : Nat) : Nat → FieldType := match ci with
  | 0 => tyX0 | 1 => tyX1 | 2 => tyX2 | 3 => tyX3 | 4 => tyX4 | 5 => tyX5 | 6 => tyX6 | 7 => tyX7 | 8 => tyX8 | 9 => tyX9 | _ => tyX10
theorem xIn {ci : Nat} {q : vw_C} (e : vwCl[ci]? = some q) : (∀ w ∈ u_ws q.1 q.2.1 q.2.2, w ∈ wsL_law0) ∧ (∀ k, k < q.2.2 → parseFieldDescriptor (q.2.1 k).2.2.1 = some (xTy ci k)) ∧ (∀ a, a < q.2.2 → ∀ b, b < q.2.2 → a ≠ b → (q.2.1 a).2.1 ≠ (q.2.1 b).2.1) := by
  match ci, e with
  | 0, e => cases e; exact ⟨inlX0, tyX0_ok, nmX0⟩
  | 1, e => cases e; exact ⟨inlX1, tyX1_ok, nmX1⟩
  | 2, e => cases e; exact ⟨inlX2, tyX2_ok, nmX2⟩
  | 3, e => cases e; exact ⟨inlX3, tyX3_ok, nmX3⟩
  | 4, e => cases e; exact ⟨inlX4, tyX4_ok, nmX4⟩
  | 5, e => cases e; exact ⟨inlX5, tyX5_ok, nmX5⟩
  | 6, e => cases e; exact ⟨inlX6, tyX6_ok, nmX6⟩
  | 7, e => cases e; exact ⟨inlX7, tyX7_ok, nmX7⟩
  | 8, e => cases e; exact ⟨inlX8, tyX8_ok, nmX8⟩
  | 9, e => cases e; exact ⟨inlX9, tyX9_ok, nmX9⟩
  | 10, e => cases e; exact ⟨inlX10, tyX10_ok, nmX10⟩
  | ci + 11, e => simp at e
theorem xV_get (o : Nat) (ho : pc + 3 = o) {a idx ci f : Nat} {fs : List Value} {v : Value} (hd : decode J.1 pc = .ok (.getfield idx, 3)) (hw : xFl J.2.2.1 idx ci f) (hc : h[a]? = some (.inr (ci, fs))) (hv : fs[f]? = some v) (kk : xV J X n k h o L (v :: st)) : xV J X n k h pc L (.ref a :: st) := by
  subst ho
  obtain ⟨⟨p, l, e, s, m⟩, ⟨args, below, meth, c⟩, ⟨dC, dI, aC⟩, r, A, Q⟩ := X
  intro S hK hA H locs ls hP hD hS hl
  obtain ⟨⟨C, T, N⟩, hq, hk, hm⟩ := hw
  exact va_get S.1 S.2.1 S.2.2.2.2 (xIn hq).1 S.2.2.2.1 hK.1 hP a (xH_at hc) hq f hk (S.2.2.2.2 _ hm) (fun _ z => z) (v := xv r v) (by rw [List.getElem?_map, hv]; rfl) hd (kk S hK hA H locs ls hP hD hS hl)
theorem xV_put (o : Nat) (ho : pc + 3 = o) {a idx ci f : Nat} {fs : List Value} {v : Value} {h' : xHp} (hd : decode J.1 pc = .ok (.putfield idx, 3)) (hw : xFl J.2.2.1 idx ci f) (hc : h[a]? = some (.inr (ci, fs))) (hfin : ∀ q : vw_C, vwCl[ci]? = some q → (q.2.1 f).2.2.2 = false) (hn : ∀ r, narrow (xTy ci f) (xv r v) = xv r v) (hfit : ∀ r, fits (xTy ci f) (xv r v) = true) (hl : f < fs.length) (hh : h.set a (.inr (ci, fs.set f v)) = h') (kk : xV J X n k h' o L st) : xV J X n k h pc L (v :: .ref a :: st) := by
  subst ho
  obtain ⟨⟨p, l, e, s, m⟩, ⟨args, below, meth, c⟩, ⟨dC, dI, aC⟩, r, A, Q⟩ := X
  intro S hK hA H locs ls hP hD hS hl2
  subst hh
  obtain ⟨⟨C, T, N⟩, hq, hk, hm⟩ := hw
  have h3 := xIn hq
  refine va_put S.1 S.2.1 S.2.2.2.2 h3.1 (xTy ci) h3.2.1 h3.2.2 S.2.2.2.1 hK.1 hP hD hS a (xH_at hc) hq f hk (S.2.2.2.2 _ hm) (fun _ z => z) (hfin _ hq) (h3.2.1 f hk) (hn r) (hfit r) (by rw [List.length_map]; exact hl) hd (fun H1 locs1 hP1 hD1 hS1 => ?_)
  have e1 : (xH aC r h).set a (r a, .inr (ci, (fs.map (xv r)).set f (xv r v))) = xH aC r (h.set a (.inr (ci, fs.set f v))) := by
    rw [← List.map_set]
    exact xH_set (c := .inr (ci, fs.set f v))
  rw [e1] at hP1 hD1
  exact kk S hK hA H1 locs1 ls hP1 hD1 hS1 hl2
/-- fewer known locals, in another order -/
theorem xV_sub {L' : List (Nat × Value)} (ks : List Nat) (hL : lv_pick L ks = L') (kk : xV J X n k h pc L' st) : xV J X n k h pc L st := by
  obtain ⟨⟨p, l, e, s, m⟩, ⟨args, below, meth, c⟩, ⟨dC, dI, aC⟩, r, A, Q⟩ := X
  intro S hK hA H locs ls hP hD hS hl
  refine kk S hK hA H locs ls hP hD hS (lv_sub hl ks ?_)
  subst hL
  unfold lv_pick xL
  rw [List.map_filterMap]
  congr 1
  funext i
  rw [List.getElem?_map]
theorem xV_widen {n' k' : Nat} (hn : n ≤ n') (hk : k ≤ k') (kk : xV J X n' k' h pc L st) : xV J X n k h pc L st := by
  obtain ⟨⟨p, l, e, s, m⟩, ⟨args, below, meth, c⟩, ⟨dC, dI, aC⟩, r, A, Q⟩ := X
  intro S hK hA H locs ls hP hD hS hl
  exact W.widen hn hk (kk S hK hA H locs ls hP hD hS hl)
/-- what a method's end must show -/
def xQ (dC : Nat → ClassId) (dI : Nat → Nat → Nat) (aC : Nat → ClassId) (r : Nat → Nat) (rv : Option Value) (h' : xHp) (A : Nat → Prop) : Array Value → State → Outcome → State → Prop := fun _ st oc t =>
  (oc = .returned (rv.map (xv r)) ∧ va_P (dC, dI) vwCl (xH aC r h') t.heap ∧ va_D A (xH aC r h')) ∧ va_F A st t
def xIs (J : xJ) (X : xX) (ret : Option FieldType) (rv : Option Value) (h' : xHp) : Prop := match X with
  | ((p, l, e, s, m), (args, below, meth, c), (dC, dI, aC), r, A, Q) => Q = MQ below (xQ dC dI aC r rv h' A) args s J.2.2.2.2.1 J.2.2.2.2.2 A ∧ meth.sig.returnType = ret ∧ meth.locks = false
theorem xV_vret (hX : xIs J X none none h) (hd : decode J.1 pc = .ok (.return_, 1)) (hn : n ≤ J.2.2.2.2.1) (hk : k ≤ J.2.2.2.2.2) : xV J X n k h pc L [] := by
  obtain ⟨⟨p, l, e, s, m⟩, ⟨args, below, meth, c⟩, ⟨dC, dI, aC⟩, r, A, Q⟩ := X
  obtain ⟨rfl, hr, hlocks⟩ := hX
  intro S hK hA H locs ls hP hD hS hl
  refine W.widen hn hk ?_
  exact W.vret S.1 S.2.1 hr (fun t ht hW => ⟨⟨rfl, by rw [ht]; exact hP, hD⟩, hS.F ht⟩) hS.2.2 hd
theorem xV_iret {v : Int32} {ty : FieldType} (hX : xIs J X (some ty) (some (.int v)) h) (hd : decode J.1 pc = .ok (.ireturn, 1)) (hv : narrow ty (.int v) = .int v) (hn : n ≤ J.2.2.2.2.1) (hk : k ≤ J.2.2.2.2.2) : xV J X n k h pc L [.int v] := by
  obtain ⟨⟨p, l, e, s, m⟩, ⟨args, below, meth, c⟩, ⟨dC, dI, aC⟩, r, A, Q⟩ := X
  obtain ⟨rfl, hr, hlocks⟩ := hX
  intro S hK hA H locs ls hP hD hS hl
  refine W.widen hn hk ?_
  exact W.zret S.1 S.2.1 hr hv (fun t ht hW => ⟨⟨rfl, by rw [ht]; exact hP, hD⟩, hS.F ht⟩) hS.2.2 hd
theorem xV_lret {v : Int64} (hX : xIs J X (some .long) (some (.long v)) h) (hd : decode J.1 pc = .ok (.lreturn, 1)) (hn : n ≤ J.2.2.2.2.1) (hk : k ≤ J.2.2.2.2.2) : xV J X n k h pc L [.long v] := by
  obtain ⟨⟨p, l, e, s, m⟩, ⟨args, below, meth, c⟩, ⟨dC, dI, aC⟩, r, A, Q⟩ := X
  obtain ⟨rfl, hr, hlocks⟩ := hX
  intro S hK hA H locs ls hP hD hS hl
  refine W.widen hn hk ?_
  exact W.lret S.1 S.2.1 hr (fun t ht hW => ⟨⟨rfl, by rw [ht]; exact hP, hD⟩, hS.F ht⟩) hS.2.2 hd
end XR
/-- a contract: at these arguments, over these cells: the answer, the cells behind it -/
def xCt (l : Launch) (y : MethodName) (ret : Option FieldType) (J : xJ) (av : List Value) (h : xHp) (rv : Option Value) (h' : xHp) : Prop :=
  ∀ (dC : Nat → ClassId) (dI : Nat → Nat → Nat) (aC : Nat → ClassId) (r : Nat → Nat) (sz : Nat),
    Met l y (Cond.code y J.1 J.2.1 ret :: wsL_law0) (xR J.2.2.2.1 J.2.2.2.2.1 J.2.2.2.2.2)
      (va_Pc (av.map (xv r)) (fun U => U.heap.size = sz ∧ va_P (dC, dI) vwCl (xH aC r h) U.heap ∧ xKK dC dI aC (va_A (xH aC r h) sz) U U.heap ∧ va_D (fun _ => True) (xH aC r h)))
      (xQ dC dI aC r rv h' (va_A (xH aC r h) sz)) J.2.2.2.2.1 J.2.2.2.2.2 (va_A (xH aC r h) sz)
theorem xArgs (r : Nat → Nat) : ∀ (i : Nat) (av : List Value), lv_args i (av.map (xv r)) = xL r (lv_args i av)
  | _, [] => rfl
  | i, v :: av => by
    show (i, xv r v) :: lv_args (if (xv r v).category = 2 then i + 2 else i + 1) (av.map (xv r)) = _
    rw [xv_cat, xArgs r _ av]
    rfl
theorem xSl (r : Nat → Nat) : ∀ av : List Value, (lg_sl (av.map (xv r))).length = (lg_sl av).length
  | [] => rfl
  | v :: av => by
    have ih := xSl r av
    show ((if (xv r v).category = 2 then [Slot.val (xv r v), .second] else [.val (xv r v)]) ++ lg_sl (av.map (xv r))).length = ((if v.category = 2 then [Slot.val v, .second] else [.val v]) ++ lg_sl av).length
    rw [List.length_append, List.length_append, ih, xv_cat]
    split <;> rfl
theorem xCt_of {l : Launch} {y : MethodName} {ret : Option FieldType} {J : xJ} {av : List Value} {h : xHp} {rv : Option Value} {h' : xHp} (hy : plainName y.cls = true) (hc : y.cls = J.2.2.1) (hn : (lg_sl av).length ≤ J.2.1)
    (body : ∀ X : xX, xIs J X ret rv h' → xV J X 0 0 h 0 (lv_args 0 av) []) : xCt l y ret J av h rv h' := by
  intro dC dI aC r sz
  refine Met.ofW (cc := J.1) (maxL := J.2.1) (ret := ret) hy rfl ?_
  intro p e s m args below meth c s₁ B hml hv
  obtain ⟨rfl, hsz, hP, hK, hD0⟩ := hv
  have hts := atoms_spec (ws := Cond.code y J.1 J.2.1 ret :: wsL_law0) B.pre
  have hown : s.vm.findClass y.cls = some m.cls := findClass_of_methodNamed B.named
  subst hsz
  have hD := hD0.self (sz := s.heap.size)
  have hl := lv_entry (av.map (xv r)) (n := J.2.1) (by rw [xSl]; exact hn)
  rw [xArgs] at hl
  rw [lg_entry_eq]
  refine body ((p, l, e, s, m), ((av.map (xv r)).toArray, below, meth, c), (dC, dI, aC), r, va_A (xH aC r h) s.heap.size, MQ below (xQ dC dI aC r rv h' (va_A (xH aC r h) s.heap.size)) (av.map (xv r)).toArray s J.2.2.2.2.1 J.2.2.2.2.2 (va_A (xH aC r h) s.heap.size)) ⟨rfl, B.returns, B.notSynchronized⟩ ⟨B.exec, B.bytes, hml, hc ▸ hown, fun w hw => hts w (List.mem_cons_of_mem _ hw)⟩ hK (fun q hq => Or.inr hq) s.heap [] _ hP hD va_S.rf hl
/-! ===== calls ===== -/
/-- a method's words -/
def xMd (y : MethodName) (C : String) (ret : Option FieldType) (J : xJ) (a : Nat) : Prop := Cond.code y J.1 J.2.1 ret ∈ wsL_law0 ∧ Cond.initialized C ∈ wsL_law0 ∧ y.cls = C ∧ (y.cls ≠ "java/lang/invoke/MethodHandle" ∧ y.cls ≠ "java/lang/invoke/VarHandle" ∧ (parseMethodDescriptor y.desc).map (fun d => d.parameters.length) = some a)
def xMv (y : MethodName) (C : String) : Prop := Cond.instanceMethod y ∈ wsL_law0 ∧ Cond.selects C y y ∈ wsL_law0
theorem xGood : wsL_law0.all goodWord = true := by decide +kernel
theorem xGoodIn {y : MethodName} {C : String} {ret : Option FieldType} {J : xJ} {a : Nat} (hM : xMd y C ret J a) : GoodIn wsL_law0 (Cond.code y J.1 J.2.1 ret :: wsL_law0) := by
  intro w hw
  have hm : w ∈ wsL_law0 := by
    rcases List.mem_cons.mp hw with rfl | h
    · exact hM.1
    · exact h
  exact ⟨hm, good_of_word (List.all_eq_true.mp xGood w hm)⟩
theorem xBlind {av : List Value} {sz : Nat} {dC : Nat → ClassId} {dI : Nat → Nat → Nat} {aC : Nat → ClassId} {r : Nat → Nat} {h : xHp} : FrameBlind (va_Pc (av.map (xv r)) (fun U => U.heap.size = sz ∧ va_P (dC, dI) vwCl (xH aC r h) U.heap ∧ xKK dC dI aC (va_A (xH aC r h) sz) U U.heap ∧ va_D (fun _ => True) (xH aC r h))) := by
  intro a U g mk q
  obtain ⟨q0, q1, qP, qK, qD⟩ := q
  exact ⟨q0, q1, qP, qK.blind rfl, qD⟩
/-- the callee's cells among the caller's: by a map of places -/
def xSub (g : Nat → Nat) (hl h : xHp) : Prop := (∀ (j : Nat) (c : xE), hl[j]? = some c → h[g j]? = some (xe g c)) ∧ ∀ i j : Nat, i < hl.length → j < hl.length → g i = g j → i = j
/-- and behind the call -/
def xBack (g : Nat → Nat) (hl hl' h h' : xHp) : Prop := hl'.length = hl.length ∧ h'.length = h.length ∧ (∀ (j : Nat) (c : xE), hl'[j]? = some c → h'[g j]? = some (xe g c)) ∧ ∀ i : Nat, (∀ j, j < hl.length → g j ≠ i) → h'[i]? = h[i]?
theorem xv_xv (r g : Nat → Nat) (v : Value) : xv r (xv g v) = xv (fun j => r (g j)) v := by cases v <;> rfl
theorem xe_xe (r g : Nat → Nat) (c : xE) : xe r (xe g c) = xe (fun j => r (g j)) c := by
  rcases c with ⟨kd, z, y⟩ | ⟨ci, fs⟩
  · rcases y with y | y | y
    · rfl
    · rfl
    · show (Sum.inl (kd, z, .inr (.inr ((y.map g).map r))) : xE) = .inl (kd, z, .inr (.inr (y.map (fun j => r (g j)))))
      rw [List.map_map]
      rfl
  · show (Sum.inr (ci, (fs.map (xv g)).map (xv r)) : xE) = .inr (ci, fs.map (xv (fun j => r (g j))))
    rw [List.map_map]
    congr 3
    funext v
    exact xv_xv r g v
theorem xH_some {aC : Nat → ClassId} {r : Nat → Nat} {h : xHp} {k : Nat} {q : Nat × va_E} (e : (xH aC r h)[k]? = some q) : ∃ c, h[k]? = some c ∧ q = (r k, xc aC (xe r c)) := by
  unfold xH at e
  rw [List.getElem?_mapIdx] at e
  cases hk : h[k]? with
  | none => rw [hk] at e; cases e
  | some c => rw [hk] at e; exact ⟨c, rfl, (Option.some.inj e).symm⟩
section XC
variable {J Jc : xJ} {X : xX} {n k : Nat} {h h' hl hl' : xHp} {pc : Nat} {L : List (Nat × Value)} {st rest av : List Value} {y : MethodName} {ret : Option FieldType} {rv : Option Value} {C : String} {idx : Nat} {g : Nat → Nat}
/-- behind a call: the world put together -/
theorem xBehind {dC : Nat → ClassId} {dI : Nat → Nat → Nat} {aC : Nat → ClassId} {r : Nat → Nat} {A : Nat → Prop} {H H1 : Heap} (hP : va_P (dC, dI) vwCl (xH aC r h) H) (hD : va_D A (xH aC r h)) (hs : xSub g hl h) (hb : xBack g hl hl' h h')
    (hk : ∀ q : Nat, q < H.size → ¬ va_A (xH aC (fun j => r (g j)) hl) H.size q → H1[q]? = H[q]?) (hP1 : va_P (dC, dI) vwCl (xH aC (fun j => r (g j)) hl') H1) : va_P (dC, dI) vwCl (xH aC r h') H1 ∧ va_D A (xH aC r h') := by
  obtain ⟨b1, b2, b3, b4⟩ := hb
  have inj : ∀ (i j : Nat), i < h.length → j < h.length → r i = r j → i = j := by
    intro i j hi hj hij
    exact hD.1 i j _ _ (xH_at (List.getElem?_eq_getElem hi)) (xH_at (List.getElem?_eq_getElem hj)) hij
  constructor
  · intro i q hq
    obtain ⟨c, hc, rfl⟩ := xH_some hq
    by_cases hj : ∃ j, j < hl.length ∧ g j = i
    · obtain ⟨j, hj, rfl⟩ := hj
      have hl2 := List.getElem?_eq_getElem (l := hl') (i := j) (by omega)
      have := b3 j _ hl2
      rw [hc] at this
      cases this
      have h9 := hP1 j _ (xH_at hl2)
      rw [xe_xe]
      exact h9
    · have h1 : h'[i]? = h[i]? := b4 i (fun j h2 h3 => hj ⟨j, h2, h3⟩)
      rw [hc] at h1
      have h2 := hP i _ (xH_at h1.symm)
      refine h2.kept (hk _ h2.lt ?_)
      rintro (⟨j, e, he⟩ | he)
      · obtain ⟨c2, hc2, e2⟩ := xH_some he
        have e3 : r i = r (g j) := congrArg Prod.fst e2
        have e4 := hs.1 j c2 hc2
        have := inj i (g j) (List.getElem?_eq_some_iff.mp h1.symm).1 (List.getElem?_eq_some_iff.mp e4).1 e3
        exact hj ⟨j, (List.getElem?_eq_some_iff.mp hc2).1, this.symm⟩
      · exact absurd h2.lt (by simpa using he)
  · constructor
    · intro i j p q hp hq hpq
      obtain ⟨c, hc, rfl⟩ := xH_some hp
      obtain ⟨c2, hc2, rfl⟩ := xH_some hq
      exact inj i j (by have := (List.getElem?_eq_some_iff.mp hc).1; omega) (by have := (List.getElem?_eq_some_iff.mp hc2).1; omega) hpq
    · intro i q hq
      obtain ⟨c, hc, rfl⟩ := xH_some hq
      have hi : i < h.length := by have := (List.getElem?_eq_some_iff.mp hc).1; omega
      have h9 := hD.2 i _ (xH_at (aC := aC) (r := r) (List.getElem?_eq_getElem hi))
      exact h9
/-- the callee's cells, cut out -/
theorem xCut {dC : Nat → ClassId} {dI : Nat → Nat → Nat} {aC : Nat → ClassId} {r : Nat → Nat} {A : Nat → Prop} {H : Heap} (hP : va_P (dC, dI) vwCl (xH aC r h) H) (hD : va_D A (xH aC r h)) (hs : xSub g hl h) : va_P (dC, dI) vwCl (xH aC (fun j => r (g j)) hl) H ∧ va_D A (xH aC (fun j => r (g j)) hl) := by
  refine ⟨fun i q hq => ?_, fun i j p q hp hq hpq => ?_, fun i q hq => ?_⟩
  · obtain ⟨c, hc, rfl⟩ := xH_some hq
    have := hP _ _ (xH_at (hs.1 i c hc))
    rw [xe_xe] at this
    exact this
  · obtain ⟨c, hc, rfl⟩ := xH_some hp
    obtain ⟨c2, hc2, rfl⟩ := xH_some hq
    have := hD.1 _ _ _ _ (xH_at (hs.1 i c hc)) (xH_at (hs.1 j c2 hc2)) hpq
    exact hs.2 i j (List.getElem?_eq_some_iff.mp hc).1 (List.getElem?_eq_some_iff.mp hc2).1 this
  · obtain ⟨c, hc, rfl⟩ := xH_some hq
    have h9 := hD.2 _ _ (xH_at (aC := aC) (r := r) (hs.1 i c hc))
    exact h9
theorem xFree {dC : Nat → ClassId} {dI : Nat → Nat → Nat} {aC : Nat → ClassId} {r : Nat → Nat} {A : Nat → Prop} {H H0 : Heap} {locs : List Loc} (hs : xSub g hl h) (hA : ∀ q : Nat, H0.size ≤ q → A q) (hD : va_D A (xH aC r h)) (hS : va_S A H0 H locs) : ∀ q, va_A (xH aC (fun j => r (g j)) hl) H.size q → A q := by
  rintro q (⟨j, e, he⟩ | he)
  · obtain ⟨c2, hc2, e2⟩ := xH_some he
    have e3 : q = r (g j) := congrArg Prod.fst e2
    rw [e3]
    have h9 := hD.2 _ _ (xH_at (aC := aC) (r := r) (hs.1 j c2 hc2))
    exact h9
  · exact hA q (Nat.le_trans hS.1 he)
theorem xRunOn {p : Program} {l : Launch} {e : Env} {s : State} {m : MethodId} {args : Array Value} {below : List Frame} {meth : Method} {c : Code} {dC : Nat → ClassId} {dI : Nat → Nat → Nat} {aC : Nat → ClassId} {r : Nat → Nat} {A : Nat → Prop} {Q : State → Prop} {H : Heap} {locs : List Loc} {ls : Array Slot} {st0 a : _}
    (hs : xSub g hl h) (hb : xBack g hl hl' h h') (S : CallFix p m c J.1 J.2.1 s args wsL_law0 J.2.2.1) (hK : xKK dC dI aC A s s.heap) (hA : ∀ q : Nat, s.heap.size ≤ q → A q) (hP : va_P (dC, dI) vwCl (xH aC r h) H) (hD : va_D A (xH aC r h)) (hS : va_S A s.heap H locs) (hll : lv_has ls J.2.1 (xL r L))
    (hr : va_Run p l e (xR J.2.2.2.1 J.2.2.2.2.1 J.2.2.2.2.2) s m args below meth c H locs n k Jc.2.2.2.2.1 Jc.2.2.2.2.2 (F0 m pc ls st0) (rest.map (xv r)) (xQ dC dI aC (fun j => r (g j)) rv hl' (va_A (xH aC (fun j => r (g j)) hl) H.size) a) (va_A (xH aC (fun j => r (g j)) hl) H.size))
    (kk : xV J ((p, l, e, s, m), (args, below, meth, c), (dC, dI, aC), r, A, Q) (n + Jc.2.2.2.2.1) (k + Jc.2.2.2.2.2) h' (pc + 3) L ((rv.map (xv g)).toList ++ rest)) : W p l e (xR J.2.2.2.1 J.2.2.2.2.1 J.2.2.2.2.2) s m args below meth c H locs n k Q (F0 m pc ls st0) := by
  have hF : ∀ q, va_A (xH aC (fun j => r (g j)) hl) H.size q → A q := by
    rintro q (⟨j, e, he⟩ | he)
    · obtain ⟨c2, hc2, e2⟩ := xH_some he
      have e3 : q = r (g j) := congrArg Prod.fst e2
      rw [e3]
      have h9 := hD.2 _ _ (xH_at (aC := aC) (r := r) (hs.1 j c2 hc2))
      exact h9
    · exact hA q (Nat.le_trans hS.1 he)
  intro T hT XX
  obtain ⟨v, st₀, t, T', L2, h0, X', hL, e1, e2, ⟨⟨hv, hP1, hD1⟩, hz, hk2⟩, stp⟩ := hr T hT XX
  cases hv
  rw [h0] at hz hk2
  rw [← e1] at hP1 hz hk2
  obtain ⟨hP2, hD2⟩ := xBehind hP hD hs hb hk2 hP1
  have hS2 : va_S A s.heap T'.heap (locs ++ L2) := ⟨Nat.le_trans hS.1 hz, fun q h1 h2 => by rw [hk2 q (Nat.lt_of_lt_of_le h1 hS.1) (fun z => h2 (hF q z))]; exact hS.2.1 q h1 h2, fun q hq => by
      rcases List.mem_append.mp hq with h | h
      · exact hS.2.2 q h
      · exact hF _ (hL q h)⟩
  have K := kk S hK hA T'.heap (locs ++ L2) ls hP2 hD2 hS2 hll T' rfl X'
  obtain ⟨t2, a1, b1⟩ := K
  refine ⟨t2, stp t2 ?_, b1⟩
  have e5 : ((rv.map (xv g)).toList ++ rest).map (xv r) = (rv.map (xv (fun j => r (g j)))).toList ++ rest.map (xv r) := by
    cases rv with
    | none => rfl
    | some w => simp [xv_xv]
  rw [e5] at a1
  exact a1
/-- invokevirtual -/
theorem xV_callv {b ci : Nat} {fs : List Value} {av2 : List Value} {q : vw_C} {l : Launch} (hd : decode J.1 pc = .ok (.invokevirtual idx, 3)) (hl0 : X.1.2.1 = l) (hM : xCt l y ret Jc av hl rv hl') (hw : xMd y C ret Jc av2.length) (hv : xMv y C) (hlk : Cond.methodLink J.2.2.1 idx y ∈ wsL_law0) (hs : xSub g hl h) (hb : xBack g hl hl' h h') (ha : av.map (xv g) = .ref b :: av2) (hst : st = av2.reverse ++ .ref b :: rest) (hcb : h[b]? = some (.inr (ci, fs))) (hci : vwCl[ci]? = some q) (hC : q.1 = C) (hroom : (rest.map fun v => v.category).sum ≤ 8) (hdp : Jc.2.2.2.1 + 1 ≤ J.2.2.2.1) (hml : Jc.2.1 ≤ 21) (hf : n + Jc.2.2.2.2.1 ≤ J.2.2.2.2.1 ∧ k + Jc.2.2.2.2.2 ≤ J.2.2.2.2.2)
    (kk : xV J X (n + Jc.2.2.2.2.1) (k + Jc.2.2.2.2.2) h' (pc + 3) L ((rv.map (xv g)).toList ++ rest)) : xV J X n k h pc L st := by
  obtain ⟨⟨p, l, e, s, m⟩, ⟨args, below, meth, c⟩, ⟨dC, dI, aC⟩, r, A, Q⟩ := X
  intro S hK hA H locs ls hP hD hS hll
  subst hl0
  obtain ⟨hPc, hDc⟩ := xCut hP hD hs
  have hav : av.map (xv (fun j => r (g j))) = .ref (r b) :: av2.map (xv r) := by
    have : (av.map (xv g)).map (xv r) = (Value.ref b :: av2).map (xv r) := by rw [ha]
    rw [List.map_map] at this
    rw [← show (List.map (xv r ∘ xv g) av) = av.map (xv (fun j => r (g j))) from List.map_congr_left (fun v _ => xv_xv r g v), this]
    rfl
  have hcat : ∀ l : List Value, ((l.map (xv r)).map fun v => v.category) = l.map fun v => v.category := fun l => by
    rw [List.map_map]; exact List.map_congr_left (fun v _ => xv_cat r v)
  have hgood : GoodIn wsL_law0 (wsV J.2.2.1 idx C y (Cond.code y Jc.1 Jc.2.1 ret :: wsL_law0)) := by
    intro w hw2
    rcases List.mem_append.mp hw2 with h9 | h9
    · have hm : w ∈ wsL_law0 := by
        simp only [List.mem_cons, List.not_mem_nil, or_false] at h9
        rcases h9 with rfl | rfl | rfl | rfl
        · exact hlk
        · exact hv.1
        · exact hv.2
        · exact hw.2.1
      exact ⟨hm, good_of_word (List.all_eq_true.mp xGood w hm)⟩
    · exact xGoodIn hw w h9
  refine xRunOn (Jc := Jc) (rest := rest) (a := (Value.ref (r b) :: av2.map (xv r)).toArray) hs hb S hK hA hP hD hS hll ?_ kk
  refine va_runV (As := av2.map (xv r)) (C := C) S (hM dC dI aC (fun j => r (g j)) H.size) (cwV av2.length S.2.2.2.2 hgood rfl rfl rfl ⟨hw.2.2.1, hw.2.2.2⟩ ⟨hdp, ?_⟩) ⟨xBlind, ?_, fun U hU hW => ⟨?_, by rw [hU], by rw [hU]; exact hPc, by rw [hU]; exact hK.call hS (xFree (dC := dC) (dI := dI) hs hA hD hS) hW, hDc.weaken (fun _ _ _ _ => trivial)⟩⟩ rfl (by rw [List.length_map]) hll.1 ?_ (lv_room (by rw [hcat]; exact hroom)) hd hf
  · show 8 + (Jc.2.1 + 11) + (41 * Jc.2.2.2.1 + 32) ≤ 41 * J.2.2.2.1 + 32
    omega
  · have := va_recv hK.1 hP hci (xH_at hcb)
    rw [hC] at this
    exact this
  · exact congrArg List.toArray hav.symm
  · show st.map (xv r) = _
    rw [hst, List.map_append, List.map_reverse]
    rfl
/-- invokestatic -/
theorem xV_calls {l : Launch} (hd : decode J.1 pc = .ok (.invokestatic idx, 3)) (hl0 : X.1.2.1 = l) (hM : xCt l y ret Jc av hl rv hl') (hw : xMd y C ret Jc av.length) (hv : Cond.static y ∈ wsL_law0) (hlk : Cond.methodLink J.2.2.1 idx y ∈ wsL_law0) (hs : xSub g hl h) (hb : xBack g hl hl' h h') (hst : st = (av.map (xv g)).reverse ++ rest) (hroom : (rest.map fun v => v.category).sum ≤ 8) (hdp : Jc.2.2.2.1 + 1 ≤ J.2.2.2.1) (hml : Jc.2.1 ≤ 21) (hf : n + Jc.2.2.2.2.1 ≤ J.2.2.2.2.1 ∧ k + Jc.2.2.2.2.2 ≤ J.2.2.2.2.2)
    (kk : xV J X (n + Jc.2.2.2.2.1) (k + Jc.2.2.2.2.2) h' (pc + 3) L ((rv.map (xv g)).toList ++ rest)) : xV J X n k h pc L st := by
  obtain ⟨⟨p, l, e, s, m⟩, ⟨args, below, meth, c⟩, ⟨dC, dI, aC⟩, r, A, Q⟩ := X
  intro S hK hA H locs ls hP hD hS hll
  subst hl0
  obtain ⟨hPc, hDc⟩ := xCut hP hD hs
  have hav : (av.map (xv g)).map (xv r) = av.map (xv (fun j => r (g j))) := by
    rw [List.map_map]
    exact List.map_congr_left (fun v _ => xv_xv r g v)
  have hcat : ∀ l : List Value, ((l.map (xv r)).map fun v => v.category) = l.map fun v => v.category := fun l => by
    rw [List.map_map]; exact List.map_congr_left (fun v _ => xv_cat r v)
  have hgood : GoodIn wsL_law0 (va_wsS J.2.2.1 idx y (Cond.code y Jc.1 Jc.2.1 ret :: wsL_law0)) := by
    intro w hw2
    rcases List.mem_append.mp hw2 with h9 | h9
    · have hm : w ∈ wsL_law0 := by
        simp only [List.mem_cons, List.not_mem_nil, or_false] at h9
        rcases h9 with rfl | rfl | rfl
        · exact hlk
        · exact hv
        · rw [hw.2.2.1]; exact hw.2.1
      exact ⟨hm, good_of_word (List.all_eq_true.mp xGood w hm)⟩
    · exact xGoodIn hw w h9
  refine xRunOn (Jc := Jc) (rest := rest) (a := (av.map (xv (fun j => r (g j)))).toArray) hs hb S hK hA hP hD hS hll ?_ kk
  refine va_runS (As := av.map (xv (fun j => r (g j)))) S (hM dC dI aC (fun j => r (g j)) H.size) (va_cwS av.length S.2.2.2.2 hgood rfl rfl rfl hw.2.2.2 ⟨hdp, ?_⟩) ⟨xBlind, fun U hU hW => ⟨rfl, by rw [hU], by rw [hU]; exact hPc, by rw [hU]; exact hK.call hS (xFree (dC := dC) (dI := dI) hs hA hD hS) hW, hDc.weaken (fun _ _ _ _ => trivial)⟩⟩ rfl (by rw [List.length_map]) hll.1 ?_ (lv_room (by rw [hcat]; exact hroom)) hd hf
  · show 8 + (Jc.2.1 + 11) + (41 * Jc.2.2.2.1 + 32) ≤ 41 * J.2.2.2.1 + 32
    omega
  · show st.map (xv r) = _
    rw [hst, List.map_append, List.map_reverse, hav]
end XC
/-! ===== the plain calls: over the same cells, over none, over one array ===== -/
theorem xv_id (v : Value) : xv (fun j => j) v = v := by cases v <;> rfl
theorem xe_id (c : xE) : xe (fun j => j) c = c := by
  rcases c with ⟨kd, z, y⟩ | ⟨ci, fs⟩
  · rcases y with y | y | y
    · rfl
    · rfl
    · show (Sum.inl (kd, z, .inr (.inr (y.map (fun j => j)))) : xE) = _
      rw [show (fun j : Nat => j) = id from rfl, List.map_id]
  · show (Sum.inr (ci, fs.map (xv (fun j => j))) : xE) = _
    rw [show xv (fun j => j) = id from funext xv_id, List.map_id]
theorem xSub_id (h : xHp) : xSub (fun j => j) h h := ⟨fun j c hc => by rw [xe_id]; exact hc, fun _ _ _ _ e => e⟩
theorem xSub_nil (h : xHp) : xSub (fun j => j) [] h := ⟨fun j c hc => by simp at hc, fun _ _ _ _ e => e⟩
theorem xBack_id {h h' : xHp} (e : h'.length = h.length) : xBack (fun j => j) h h' h h' := ⟨e, e, fun j c hc => by rw [xe_id]; exact hc, fun i hi => by
  by_cases hl : i < h.length
  · exact absurd rfl (hi i hl)
  · rw [List.getElem?_eq_none (by omega), List.getElem?_eq_none (by omega)]⟩
theorem xBack_nil (h : xHp) : xBack (fun j => j) [] [] h h := ⟨rfl, rfl, fun j c hc => by simp at hc, fun _ _ => rfl⟩
theorem xSub_one {h : xHp} {b : Nat} {c : xE} (hc : h[b]? = some c) (hx : xe (fun _ => b) c = c) : xSub (fun _ => b) [c] h := ⟨fun j d hd => by
    match j, hd with
    | 0, hd => cases hd; rw [hx]; exact hc
    | j + 1, hd => simp at hd, fun i j hi hj _ => by simp at hi hj; omega⟩
theorem xBack_one {h h' : xHp} {b : Nat} {c c' : xE} (hb : b < h.length) (hh : h.set b c' = h') (hx : xe (fun _ => b) c' = c') : xBack (fun _ => b) [c] [c'] h h' := by
  subst hh
  refine ⟨rfl, by simp, fun j d hd => ?_, fun i hi => ?_⟩
  · match j, hd with
    | 0, hd => cases hd; rw [hx]; simp [hb]
    | j + 1, hd => simp at hd
  · exact List.getElem?_set_ne (hi 0 (by simp))
section XP
variable {J Jc : xJ} {X : xX} {n k : Nat} {h h' : xHp} {pc : Nat} {L : List (Nat × Value)} {st rest av av2 : List Value} {y : MethodName} {ret : Option FieldType} {rv : Option Value} {C : String} {idx : Nat} {l : Launch}
/-- a method of the same object, over the same cells -/
theorem xV_same (o : Nat) (ho : pc + 3 = o) {b ci : Nat} {fs : List Value} {q : vw_C} (hd : decode J.1 pc = .ok (.invokevirtual idx, 3)) (hl0 : X.1.2.1 = l) (hM : xCt l y ret Jc (.ref b :: av2) h rv h') (hw : xMd y C ret Jc av2.length) (hv : xMv y C) (hlk : Cond.methodLink J.2.2.1 idx y ∈ wsL_law0) (hlen : h'.length = h.length) (hst : st = av2.reverse ++ .ref b :: rest) (hcb : h[b]? = some (.inr (ci, fs))) (hci : vwCl[ci]? = some q) (hC : q.1 = C) (hroom : (rest.map fun v => v.category).sum ≤ 8) (hdp : Jc.2.2.2.1 + 1 ≤ J.2.2.2.1) (hml : Jc.2.1 ≤ 21) (hf : n + Jc.2.2.2.2.1 ≤ J.2.2.2.2.1 ∧ k + Jc.2.2.2.2.2 ≤ J.2.2.2.2.2)
    (kk : xV J X (n + Jc.2.2.2.2.1) (k + Jc.2.2.2.2.2) h' o L (rv.toList ++ rest)) : xV J X n k h pc L st := by
  subst ho
  have e9 : xv (fun j => j) = id := funext xv_id
  refine xV_callv hd hl0 hM hw hv hlk (xSub_id h) (xBack_id hlen) (by rw [e9, List.map_id]) hst hcb hci hC hroom hdp hml hf ?_
  rw [e9, Option.map_id]
  exact kk
/-- a static method that touches no cell -/
theorem xV_st0 (o : Nat) (ho : pc + 3 = o) (hd : decode J.1 pc = .ok (.invokestatic idx, 3)) (hl0 : X.1.2.1 = l) (hM : xCt l y ret Jc av [] rv []) (hw : xMd y C ret Jc av.length) (hv : Cond.static y ∈ wsL_law0) (hlk : Cond.methodLink J.2.2.1 idx y ∈ wsL_law0) (hst : st = av.reverse ++ rest) (hroom : (rest.map fun v => v.category).sum ≤ 8) (hdp : Jc.2.2.2.1 + 1 ≤ J.2.2.2.1) (hml : Jc.2.1 ≤ 21) (hf : n + Jc.2.2.2.2.1 ≤ J.2.2.2.2.1 ∧ k + Jc.2.2.2.2.2 ≤ J.2.2.2.2.2)
    (kk : xV J X (n + Jc.2.2.2.2.1) (k + Jc.2.2.2.2.2) h o L (rv.toList ++ rest)) : xV J X n k h pc L st := by
  subst ho
  have e9 : xv (fun j => j) = id := funext xv_id
  refine xV_calls hd hl0 hM hw hv hlk (xSub_nil h) (xBack_nil h) (by rw [e9, List.map_id]; exact hst) hroom hdp hml hf ?_
  rw [e9, Option.map_id]
  exact kk
/-- a static method that gets one array -/
theorem xV_st1 (o : Nat) (ho : pc + 3 = o) {b : Nat} {c c' : xE} (hd : decode J.1 pc = .ok (.invokestatic idx, 3)) (hl0 : X.1.2.1 = l) (hM : xCt l y ret Jc [.ref 0] [c] rv [c']) (hw : xMd y C ret Jc 1) (hv : Cond.static y ∈ wsL_law0) (hlk : Cond.methodLink J.2.2.1 idx y ∈ wsL_law0) (hc : h[b]? = some c) (hx : xe (fun _ => b) c = c) (hx' : xe (fun _ => b) c' = c') (hh : h.set b c' = h') (hr : rv.map (xv (fun _ => b)) = rv) (hst : st = .ref b :: rest) (hroom : (rest.map fun v => v.category).sum ≤ 8) (hdp : Jc.2.2.2.1 + 1 ≤ J.2.2.2.1) (hml : Jc.2.1 ≤ 21) (hf : n + Jc.2.2.2.2.1 ≤ J.2.2.2.2.1 ∧ k + Jc.2.2.2.2.2 ≤ J.2.2.2.2.2)
    (kk : xV J X (n + Jc.2.2.2.2.1) (k + Jc.2.2.2.2.2) h' o L (rv.toList ++ rest)) : xV J X n k h pc L st := by
  subst ho
  refine xV_calls hd hl0 hM hw hv hlk (xSub_one hc hx) (xBack_one (List.getElem?_eq_some_iff.mp hc).1 hh hx') hst hroom hdp hml hf ?_
  rw [hr]
  exact kk
end XP
/-! ===== what the printed functions are made of ===== -/
abbrev xn (i : Int32) : Nat := i.toNatClampNeg
def xin (i : Int32) (z : Nat) : Bool := !(decide (i < 0) || decide (z ≤ xn i))
def xg {α : Type} (b : Bool) (k : Option α) : Option α := match b with
  | true => k
  | false => none
def xbo (v : Int32) : Bool := decide (v = 0) || decide (v = 1)
def xnz (v : Int32) : Bool := !decide (v = 0)
def xnzl (v : Int64) : Bool := !decide (v = 0)
theorem xin_ok {i : Int32} {z : Nat} (h : xin i z = true) : vp_in i z := by
  unfold xin at h
  unfold vp_in
  simp only [Bool.not_eq_true', Bool.or_eq_false_iff, decide_eq_false_iff_not] at h
  rintro (q | q)
  · exact h.1 q
  · exact h.2 q
theorem xbo_ok {v : Int32} (h : xbo v = true) : narrow .boolean (.int v) = .int v := by
  unfold xbo at h
  simp only [Bool.or_eq_true, decide_eq_true_eq] at h
  rcases h with rfl | rfl <;> decide
theorem xnz_ok {v : Int32} (h : xnz v = true) : ¬ v = 0 := by
  unfold xnz at h
  simpa using h
theorem xnzl_ok {v : Int64} (h : xnzl v = true) : ¬ v = 0 := by
  unfold xnzl at h
  simpa using h
theorem xg_s {α : Type} {b : Bool} {k : Option α} {o : α} (h : xg b k = some o) : b = true ∧ k = some o := by
  cases b with
  | true => exact ⟨rfl, h⟩
  | false => cases h
theorem xif_t {α : Type} {c : Prop} {_ : Decidable c} {a b : Option α} {o : α} (h : (if c then a else b) = some o) (hc : c) : a = some o := by
  rw [if_pos hc] at h; exact h
theorem xif_f {α : Type} {c : Prop} {_ : Decidable c} {a b : Option α} {o : α} (h : (if c then a else b) = some o) (hc : ¬ c) : b = some o := by
  rw [if_neg hc] at h; exact h
theorem xb_s {α β : Type} {a : Option α} {k : α → Option β} {o : β} (h : a.bind k = some o) : ∃ v, a = some v ∧ k v = some o := by
  cases a with
  | none => cases h
  | some v => exact ⟨v, rfl, h⟩
