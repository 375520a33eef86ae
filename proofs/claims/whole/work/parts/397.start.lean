/-! ===== what holds at the start ===== -/
theorem arr_of {s : State} {c comp : ClassId} {k : Class} {ty : FieldType} (h1 : s.vm.classes[c]? = some k) (h2 : k.kind = .array comp ty) : ArrOfT s c ty := fun n z => ⟨fun k' h => (by cases h), k, h1, comp, h2⟩
theorem kc_start {s : State} {A : Array Value} (hts : ∀ w ∈ lw_tbl, w.before A s = true) : ∃ (dC : Nat → ClassId) (dI : Nat → Nat → Nat), ∀ (c : Nat) (q : vw_C), vwCl[c]? = some q → u_Kn s q.1 q.2.1 q.2.2 (dC c) (dI c) := by
  have h0 : ∀ c : Nat, ∃ d : ClassId × (Nat → Nat), ∀ q, vwCl[c]? = some q → u_Kn s q.1 q.2.1 q.2.2 d.1 d.2 := by
    intro c
    have mk : ∀ (C : String) (T : u_T) (N n : Nat), (∀ w ∈ u_ws C T N, w ∈ lw_tbl) → Cond.instantiable C n ∈ lw_tbl → vwCl[c]? = some (C, T, N) → ∃ d : ClassId × (Nat → Nat), ∀ q, vwCl[c]? = some q → u_Kn s q.1 q.2.1 q.2.2 d.1 d.2 := by
      intro C T N n hin hi he
      obtain ⟨cC, iS, hk⟩ := u_known hts hin (hts _ hi)
      refine ⟨(cC, iS), fun q hq => ?_⟩
      rw [he] at hq
      cases hq
      exact hk
    match c, mk with
    | 0, mk => exact mk RX0 TX0 2 2 wI_wsX00 (List.mem_of_getElem? (i := 152) (by decide +kernel)) rfl
    | 1, mk => exact mk RX1 TX1 8 8 wI_wsX10 (List.mem_of_getElem? (i := 361) (by decide +kernel)) rfl
    | 2, mk => exact mk RX2 TX2 2 2 wI_wsX20 (List.mem_of_getElem? (i := 300) (by decide +kernel)) rfl
    | 3, mk => exact mk RX3 TX3 6 6 wI_wsX30 (List.mem_of_getElem? (i := 171) (by decide +kernel)) rfl
    | 4, mk => exact mk RX4 TX4 8 8 wI_wsX40 (List.mem_of_getElem? (i := 141) (by decide +kernel)) rfl
    | 5, mk => exact mk RX5 TX5 6 6 wI_wsX50 (List.mem_of_getElem? (i := 315) (by decide +kernel)) rfl
    | 6, mk => exact mk RX6 TX6 2 2 wI_wsX60 (List.mem_of_getElem? (i := 345) (by decide +kernel)) rfl
    | 7, mk => exact mk RX7 TX7 6 6 wI_wsX70 (List.mem_of_getElem? (i := 257) (by decide +kernel)) rfl
    | 8, mk => exact mk RX8 TX8 3 3 wI_wsX80 (List.mem_of_getElem? (i := 251) (by decide +kernel)) rfl
    | 9, mk => exact mk RX9 TX9 8 8 wI_wsX90 (List.mem_of_getElem? (i := 133) (by decide +kernel)) rfl
    | 10, mk => exact mk RX10 TX10 37 37 wI_wsX100 (List.mem_of_getElem? (i := 1120) (by decide +kernel)) rfl
    | n + 11, _ => exact ⟨(0, fun _ => 0), fun q hq => by
      have h' : (none : Option vw_C) = some q := hq
      cases h'⟩
  obtain ⟨d, hd⟩ := Classical.axiomOfChoice h0
  exact ⟨fun c => (d c).1, fun c => (d c).2, fun c q hq => hd c q hq⟩
theorem ka_start {s : State} {A : Array Value} (hts : ∀ w ∈ lw_tbl, w.before A s = true) : ∃ aC : Nat → ClassId, ∀ (k : Nat) (q : ClassId × FieldType), (xT aC)[k]? = some q → ArrOfT s q.1 q.2 ∧ va_RA s q.1 q.2 := by
  have prim : ∀ (ty : FieldType), Cond.arrayClass ty ∈ lw_tbl → (∀ C, ty ≠ .object C) → ∃ c, ArrOfT s c ty ∧ va_RA s c ty := by
    intro ty hm hn
    obtain ⟨c, k, comp, h1, h2, h3⟩ := Cond.arrayClass_spec (hts _ hm)
    refine ⟨c, arr_of h2 h3, ?_⟩
    cases ty with
    | object C => exact absurd rfl (hn C)
    | _ => exact h1
  have obj : ∀ (C : String), Cond.arrayOver (.object C) ∈ lw_tbl → ∃ c, ArrOfT s c (.object C) ∧ va_RA s c (.object C) := by
    intro C hm
    obtain ⟨comp, c, k, h1, -, h3, h4, h5⟩ := Cond.arrayOver_spec (hts _ hm)
    refine ⟨c, arr_of h3 h4, ?_⟩
    show ∃ (kA : Class) (comp : ClassId), s.vm.classes[c]? = some kA ∧ kA.kind = .array comp (.object C) ∧ s.vm.findClass C = some comp ∧ s.vm.findClass ("[" ++ (FieldType.object C).toString) = some c
    exact ⟨k, comp, h3, h4, h1, h5⟩
  have arr : ∀ (t : FieldType), Cond.arrayOver (.array t) ∈ lw_tbl → ∃ c, ArrOfT s c (.array t) ∧ va_RA s c (.array t) := by
    intro t hm
    obtain ⟨comp, c, k, h1, h3, h4, h5⟩ := Cond.arrayOver_specA (hts _ hm)
    refine ⟨c, arr_of h3 h4, ?_⟩
    show s.vm.findClass ("[" ++ (FieldType.array t).toString) = some c
    exact h5
  have h0 : ∀ k : Nat, ∃ c : ClassId, ∀ ty, xKs[k]? = some ty → ArrOfT s c ty ∧ va_RA s c ty := by
    intro k
    have fin : ∀ (ty : FieldType), (∃ c, ArrOfT s c ty ∧ va_RA s c ty) → xKs[k]? = some ty → ∃ c : ClassId, ∀ ty, xKs[k]? = some ty → ArrOfT s c ty ∧ va_RA s c ty := by
      intro ty ⟨c, hc⟩ he
      refine ⟨c, fun ty' h' => ?_⟩
      rw [he] at h'
      cases h'
      exact hc
    match k, fin with
    | 0, fin => exact fin _ (prim .int (List.mem_of_getElem? (i := 170) (by decide +kernel)) (fun _ h => by cases h)) rfl
    | 1, fin => exact fin _ (prim .long (List.mem_of_getElem? (i := 394) (by decide +kernel)) (fun _ h => by cases h)) rfl
    | 2, fin => exact fin _ (prim .byte (List.mem_of_getElem? (i := 624) (by decide +kernel)) (fun _ h => by cases h)) rfl
    | 3, fin => exact fin _ (prim .boolean (List.mem_of_getElem? (i := 1262) (by decide +kernel)) (fun _ h => by cases h)) rfl
    | 4, fin => exact fin _ (obj "SecretForces$Book" (List.mem_of_getElem? (i := 149) (by decide +kernel))) rfl
    | 5, fin => exact fin _ (obj "SecretForces$Plan" (List.mem_of_getElem? (i := 151) (by decide +kernel))) rfl
    | 6, fin => exact fin _ (obj "SecretForces$Notes" (List.mem_of_getElem? (i := 299) (by decide +kernel))) rfl
    | 7, fin => exact fin _ (arr .int (List.mem_of_getElem? (i := 147) (by decide +kernel))) rfl
    | 8, fin => exact fin _ (arr .long (List.mem_of_getElem? (i := 368) (by decide +kernel))) rfl
    | n + 9, _ => exact ⟨0, fun ty h => by
      have h' : (none : Option FieldType) = some ty := h
      cases h'⟩
  obtain ⟨aC, ha⟩ := Classical.axiomOfChoice h0
  refine ⟨aC, fun k q hq => ?_⟩
  unfold xT at hq
  rw [List.getElem?_mapIdx] at hq
  cases hx : xKs[k]? with
  | none =>
    rw [hx] at hq
    have hq' : (none : Option (ClassId × FieldType)) = some q := hq
    cases hq'
  | some ty =>
    rw [hx] at hq
    have hq' : some (aC k, ty) = some q := hq
    cases hq'
    exact ha k ty hx
theorem kn_start {s : State} {A : Array Value} (hts : ∀ w ∈ lw_tbl, w.before A s = true) : xNs s := by
  have h : ∀ q ∈ xNl, Cond.methodLinkNest q.1 q.2.1 q.2.2 "SecretForces" ∈ lw_tbl := by
    intro q hq
    have h1 : Cond.methodLinkNest q.1 q.2.1 q.2.2 "SecretForces" ∈ xNl.map (fun q => Cond.methodLinkNest q.1 q.2.1 q.2.2 "SecretForces") := List.mem_map.mpr ⟨q, hq, rfl⟩
    exact xIns [668, 573, 252, 301, 316, 346, 362, 153, 172, 258] (by decide +kernel) _ h1
  intro q hq
  exact va_Nw.of rfl (hts _ (h q hq))
