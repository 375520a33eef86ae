theorem dL_law_0 : decode cL_law 0 = .ok (.new 8, 3) := by decide +kernel
theorem dL_law_3 : decode cL_law 3 = .ok (.dup, 1) := by decide +kernel
theorem dL_law_4 : decode cL_law 4 = .ok (.invokespecial 15, 3) := by decide +kernel
theorem dL_law_7 : decode cL_law 7 = .ok (.astore_n 1, 1) := by decide +kernel
theorem dL_law_8 : decode cL_law 8 = .ok (.new 16, 3) := by decide +kernel
theorem dL_law_11 : decode cL_law 11 = .ok (.dup, 1) := by decide +kernel
theorem dL_law_12 : decode cL_law 12 = .ok (.invokespecial 18, 3) := by decide +kernel
theorem dL_law_15 : decode cL_law 15 = .ok (.astore_n 2, 1) := by decide +kernel
theorem dL_law_16 : decode cL_law 16 = .ok (.iconst 1, 1) := by decide +kernel
theorem dL_law_17 : decode cL_law 17 = .ok (.newarray .long, 2) := by decide +kernel
theorem dL_law_19 : decode cL_law 19 = .ok (.astore_n 3, 1) := by decide +kernel
theorem dL_law_20 : decode cL_law 20 = .ok (.iconst 0, 1) := by decide +kernel
theorem dL_law_21 : decode cL_law 21 = .ok (.istore 4, 2) := by decide +kernel
/-- the two heaps at the law's start -/
def xHx0 (v1 : (Nat → Int32) × (Nat → Nat → Int32)) : xHp := (hXx 0 3 0 (upd (upd (upd (fun _ => 0) 0 1) 1 1) 2 1) (upd (upd (fun _ => 0) 0 5) 1 4) v1.1 v1.2 (fun _ _ => 0) (fun _ => 0) (fun _ _ => 0) (fun _ _ => 0) (fun _ _ => 0) (fun _ => 0) (fun _ => 0) (fun _ => 0) 0 (fun _ => 0) 0 0 0 0 0 3 0 (upd (upd (upd (fun _ => 0) 0 1) 1 1) 2 1) (upd (upd (fun _ => 0) 0 5) 1 4) v1.1 v1.2 (fun _ _ => 0) (fun _ => 0) (fun _ _ => 0) (fun _ _ => 0) (fun _ _ => 0) (fun _ => 0) (fun _ => 0) (fun _ => 0) (fun _ _ => 0) (fun _ => 0) (fun _ _ => 0) (fun _ => 0) 0 1 (fun _ _ => 0) (fun _ => 0) 0 (fun _ _ => 0) (fun _ _ => 0) (fun _ => 0) (fun _ _ => 0) (fun _ => 0) (fun _ => 0) 0 0 0)
def xHm0 (v : (Nat → Int32) × (Nat → Int32) × (Nat → Int32) × Int32) : xHp := (hM 0 (upd (upd (upd (upd (upd (upd (fun _ => 0) 0 3) 1 1) 2 1) 3 1) 5 5) 6 4) (fun _ => 0) v.1 v.2.1 v.2.2.1 (fun _ => 0) (fun _ => 0) (fun _ => 0) (fun _ => 0) 0 (fun _ => 0) 0 0 0 0 0 0 0 0 (upd (upd (upd (upd (upd (upd (upd (upd (fun _ => 0) 0 1) 1 5) 2 25) 3 125) 4 625) 5 3125) 6 15625) 7 78125) (fun _ => 0) 0 (fun _ => 0) v.2.2.2 (fun _ => 0) 0 0 0 0 0 (fun _ => 0) (fun _ => 0) (fun _ => 0) (fun _ => 0) (fun _ => 0) 0)
def xLawAll (l : Launch) : Prop := ∃ (Inv : Nat → xHp → xHp → Prop) (z : Nat) (v0 v1 : (Nat → Int32) × (Nat → Nat → Int32)) (v : (Nat → Int32) × (Nat → Int32) × (Nat → Int32) × Int32), F4_listSplits z 0 3 (upd (upd (fun _ => 0) 0 5) 1 4) (fun _ => 0) (fun _ _ => 0) = some v0 ∧ F4_listSplits z 1 3 (upd (upd (fun _ => 0) 0 5) 1 4) v0.1 v0.2 = some v1 ∧ F10_lays z (upd (upd (upd (upd (upd (upd (fun _ => 0) 0 3) 1 1) 2 1) 3 1) 5 5) 6 4) (fun _ => 0) (fun _ => 0) (fun _ => 0) 0 = some v ∧ (∀ t, t < 512 → xLawOk l (Inv t) (Inv (t + 1))) ∧ Inv 0 (xHx0 v1) (xHm0 v)
theorem xe_zero (h : xHp) : h.map (xe (fun j => 0 + j)) = h := by
  have e : (fun j : Nat => 0 + j) = fun j => j := funext (fun j => Nat.zero_add j)
  rw [e, show xe (fun j => j) = id from funext xe_id, List.map_id]
set_option maxRecDepth 100000 in
theorem law_start {p : Program} {e : Env} {s : State} {m : MethodId} {below : List Frame} {meth : Method} {c : Code} (l : Launch) (htr : l.stackTraces = false) {b L : Nat} {xs : Nat → Int32} (hL : L ≤ 3072) (C0 : lw_At p s m meth c b L xs) (hwords : ∀ w ∈ wsL_law0, w.before #[Value.ref b] s = true) (hKK : ∃ dC dI aC, xKK dC dI aC (fun q => s.heap.size ≤ q) s s.heap) (hY : xY s) (hAll : xLawAll l) : W p l e room_1 s m #[Value.ref b] below meth c s.heap [] 0 0 (lw_Z below #[Value.ref b] s) (entryFrame m ([Value.ref b] : List Value).toArray 7) := by
  obtain ⟨hx, hb, hr, hml, hown, -, hX, hbl, hlocks, -⟩ := C0
  obtain ⟨dC, dI, aC, hK⟩ := hKK
  obtain ⟨Inv, z, v0, v1, v, hf0, hf1, hf, hOk, hI⟩ := hAll
  have hl := lv_entry ([Value.ref b]) (n := 7) (Nat.le_of_ble_eq_true rfl)
  rw [lg_entry_eq]
  have hl2 : lv_has (lg_sl [Value.ref b] ++ List.replicate (7 - (lg_sl [Value.ref b]).length) Slot.unset).toArray 7 (xL (fun j => if j = 2000 then b else 0) [(0, .ref 2000)]) := hl
  have hP : va_P (dC, dI) vwCl (xH aC (fun j => if j = 2000 then b else 0) []) s.heap := fun k q hq => by cases hq
  have hD : va_D (fun q => s.heap.size ≤ q) (xH aC (fun j => if j = 2000 then b else 0) []) := ⟨(fun i j p q hp => by cases hp), (fun k q hq => by cases hq)⟩
  have hW : xLw ((p, l, e, s, m), (#[Value.ref b], below, meth, c), (dC, dI, aC), (fun j => if j = 2000 then b else 0), (fun q => s.heap.size ≤ q), lw_Z below #[Value.ref b] s) b L xs := ⟨rfl, rfl, rfl, hr, hlocks, hX, hbl, if_pos rfl, hY, htr⟩
  suffices K : ∀ X : xX, xLw X b L xs → X.1.2.1 = l → xV jL_law X 0 0 [] 0 [(0, .ref 2000)] [] by
    exact K _ hW rfl ⟨hx, hb, hml, hown, hwords⟩ hK (fun q hq => hq) s.heap [] _ hP hD va_S.rf hl2
  clear hl hl2 hP hD hW hK hX
  intro X hW hl
  refine xV_newL (ci := 9) (fs := [.null, .null, .null, .null, .null, .null, .null, .int 0]) 0 rfl 3 rfl dL_law_0 rfl ⟨List.mem_of_getElem? (i := 0) (by decide +kernel), List.mem_of_getElem? (i := 1) (by decide +kernel), List.mem_of_getElem? (i := 2) (by decide +kernel)⟩ (fun _ => rfl) (by decide) (Nat.le_of_ble_eq_true rfl) (Nat.le_of_ble_eq_true rfl) (xScH_of (Nat.le_refl _) rfl) (fun q hq a ha => by rw [List.mem_singleton.mp hq] at ha; cases ha; decide) (fun v hv => by cases hv) (fun r1 hr1 => ?_)
  have hW := xLw_setr (hr1 2000 (by decide)) hW
  have hl : (xsetr X r1).1.2.1 = l := hl
  generalize xsetr X r1 = X at hW hl ⊢
  refine xV_dup 4 rfl dL_law_3 rfl ?_
  refine xV_ctorL (M := 81) (h0 := []) (rest := [.ref 0]) 0 rfl 7 rfl dL_law_4 hl (C9_init l hf0 hf1) m9_init rfl (List.mem_of_getElem? (i := 8) (by decide +kernel)) (List.mem_of_getElem? (i := 7) (by decide +kernel)) (fun _ => rfl) (Nat.le_of_ble_eq_true rfl) (Nat.le_of_ble_eq_true rfl) (Nat.le_of_ble_eq_true rfl) ⟨(Nat.le_of_ble_eq_true rfl), (Nat.le_of_ble_eq_true rfl)⟩ (xScH_of (Nat.le_of_ble_eq_true rfl) rfl) (xScH_of (Nat.le_of_ble_eq_true rfl) rfl) (by decide) (fun q hq a ha => by rw [List.mem_singleton.mp hq] at ha; cases ha; exact Or.inr (by decide)) (fun w hw a ha => by rw [List.mem_singleton.mp hw] at ha; cases ha; exact Or.inl (by decide)) (fun r2 hr2 => ?_)
  have hW := xLw_setr (hr2 2000 (Or.inr (by decide))) hW
  have hl : (xsetr X r2).1.2.1 = l := hl
  generalize xsetr X r2 = X at hW hl ⊢
  refine xV_h (h' := xHx0 v1) (xe_zero _) ?_
  obtain ⟨hlx, hlm, -, -, hsx⟩ := (hOk 0 (by decide)).1.1 _ _ hI
  refine xV_astore_n (L' := [(1, .ref 0), (0, .ref 2000)]) 8 rfl dL_law_7 rfl (xlt rfl) rfl ?_
  refine xV_newL (ci := 10) (fs := [.int 0, .null, .null, .null, .null, .null, .null, .null, .null, .null, .int 0, .null, .int 0, .int 0, .int 0, .int 0, .int 0, .int 0, .int 0, .int 0, .null, .null, .int 0, .null, .int 0, .null, .int 0, .int 0, .int 0, .long 0, .long 0, .null, .null, .null, .null, .null, .int 0]) 81 hlx 11 rfl dL_law_8 rfl ⟨List.mem_of_getElem? (i := 3) (by decide +kernel), List.mem_of_getElem? (i := 4) (by decide +kernel), List.mem_of_getElem? (i := 5) (by decide +kernel)⟩ (fun _ => rfl) (by decide) (Nat.le_of_ble_eq_true rfl) (Nat.le_of_ble_eq_true rfl) hsx (fun q hq a ha => by
    simp only [List.mem_cons, List.not_mem_nil, or_false] at hq
    rcases hq with rfl | rfl <;> (cases ha; decide)) (fun v hv => by cases hv) (fun r3 hr3 => ?_)
  have hW := xLw_setr (hr3 2000 (by decide)) hW
  have hl : (xsetr X r3).1.2.1 = l := hl
  generalize xsetr X r3 = X at hW hl ⊢
  refine xV_dup 12 rfl dL_law_11 rfl ?_
  have hsx2 : xScH (81 + 1) (xHx0 v1) := ⟨by rw [hlx]; decide, fun c hc => by
    have h1 := hsx.2 c hc
    rcases c with ⟨kd, z, y⟩ | ⟨ci, fs⟩
    · rcases y with y | y | y
      · trivial
      · trivial
      · exact fun b hb => Nat.lt_succ_of_lt (h1 b hb)
    · exact fun v hv a ha => Nat.lt_succ_of_lt (h1 v hv a ha)⟩
  refine xV_ctorL (M := 20) (h0 := xHx0 v1) (rest := [.ref 81]) 81 hlx 15 rfl dL_law_12 hl (C10_init l hf) m10_init rfl (List.mem_of_getElem? (i := 119) (by decide +kernel)) (List.mem_of_getElem? (i := 118) (by decide +kernel)) (fun _ => rfl) (Nat.le_of_ble_eq_true rfl) (Nat.le_of_ble_eq_true rfl) (Nat.le_of_ble_eq_true rfl) ⟨(Nat.le_of_ble_eq_true rfl), (Nat.le_of_ble_eq_true rfl)⟩ hsx2 (xScH_of (Nat.le_of_ble_eq_true rfl) rfl) (by decide) (fun q hq a ha => by
    simp only [List.mem_cons, List.not_mem_nil, or_false] at hq
    rcases hq with rfl | rfl <;> (cases ha; decide)) (fun w hw a ha => by rw [List.mem_singleton.mp hw] at ha; cases ha; exact Or.inl (by decide)) (fun r4 hr4 => ?_)
  have hW := xLw_setr (hr4 2000 (Or.inr (by decide))) hW
  have hl : (xsetr X r4).1.2.1 = l := hl
  generalize xsetr X r4 = X at hW hl ⊢
  refine xV_astore_n (L' := [(2, .ref 81), (1, .ref 0), (0, .ref 2000)]) 16 rfl dL_law_15 rfl (xlt rfl) rfl ?_
  refine xV_iconst (v := 1) 17 rfl dL_law_16 (by decide) ?_
  have hmid : (xHx0 v1 ++ (xHm0 v).map (xe (fun j => 81 + j))).length = 101 := by rw [List.length_append, List.length_map, hlx, hlm]
  refine xV_newaL (atype := .long) (kd := 1) (a0 := (1, .inr (.inl (fun _ => 0)))) 101 hmid 19 rfl dL_law_17 (List.mem_of_getElem? (i := 6) (by decide +kernel)) rfl rfl (xNew1 1) (fun _ => rfl) (by decide) (by decide) (Nat.le_of_ble_eq_true rfl) (Nat.le_of_ble_eq_true rfl) (Nat.le_of_ble_eq_true rfl) ⟨by rw [hmid]; exact Nat.le_refl _, fun c hc => ?_⟩ (fun q hq a ha => by
    simp only [List.mem_cons, List.not_mem_nil, or_false] at hq
    rcases hq with rfl | rfl | rfl <;> (cases ha; decide)) (fun v hv => by cases hv) (fun r5 hr5 => ?_)
  · rcases List.mem_append.mp hc with h1 | h1
    · have h2 := hsx.2 c h1
      rcases c with ⟨kd, z, y⟩ | ⟨ci, fs⟩
      · rcases y with y | y | y
        · trivial
        · trivial
        · exact fun b hb => Nat.lt_of_lt_of_le (h2 b hb) (by decide)
      · exact fun v hv a ha => Nat.lt_of_lt_of_le (h2 v hv a ha) (by decide)
    · have hall : xScH 101 ((xHm0 v).map (xe (fun j => 81 + j))) := xScH_of (Nat.le_of_ble_eq_true rfl) rfl
      exact hall.2 c h1
  have hW := xLw_setr (hr5 2000 (by decide)) hW
  have hl : (xsetr X r5).1.2.1 = l := hl
  generalize xsetr X r5 = X at hW hl ⊢
  refine xV_h (h' := hLw (xHx0 v1) (xHm0 v) (fun _ => 0)) (List.append_assoc _ _ _) ?_
  refine xV_astore_n (L' := [(3, .ref 101), (2, .ref 81), (1, .ref 0), (0, .ref 2000)]) 20 rfl dL_law_19 rfl (xlt rfl) rfl ?_
  refine xV_iconst (v := 0) 21 rfl dL_law_20 (by decide) ?_
  refine xV_istore (L' := [(4, .int 0), (3, .ref 101), (2, .ref 81), (1, .ref 0), (0, .ref 2000)]) 23 rfl dL_law_21 (xlt rfl) rfl ?_
  refine xV_sub [0, 4, 3, 2, 1] rfl ?_
  exact law_loop hOk hL 512 0 _ _ X _ _ _ hW hl hI (by omega) (by omega) (Nat.le_of_ble_eq_true rfl) (Nat.le_of_ble_eq_true rfl)
