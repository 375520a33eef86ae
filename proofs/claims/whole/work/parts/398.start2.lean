/-! ===== constants and statics at the start ===== -/
def xTmS (i : Nat) : Term := .string (xKt i).1 (xKt i).2.1
def xValS (i : Nat) : Term := .field (xTmS i) "java/lang/String" "value" "[B"
def xFlat : List Cond := flatC (Jvm.Cond.and given_1 narrow_1)
theorem fl_ex : (List.range 7).all (fun i => decide (Cond.exactly (xTmS i) "java/lang/String" ∈ xFlat)) = true := by decide +kernel
theorem fl_co : (List.range 7).all (fun i => decide (Cond.eq (.field (xTmS i) "java/lang/String" "coder" "B") (.int 0) ∈ xFlat)) = true := by decide +kernel
theorem fl_ar : (List.range 7).all (fun i => decide (Cond.arrayOf (xValS i) .byte ∈ xFlat)) = true := by decide +kernel
theorem fl_le : (List.range 7).all (fun i => decide (Cond.eq (.length (xValS i)) (.int (Int32.ofNat (xKl.getD i 0))) ∈ xFlat)) = true := by decide +kernel
theorem fl_el : (List.range 7).all (fun i => (List.range (xKl.getD i 0)).all (fun j => decide (Cond.eq (.elem (xValS i) (.int (Int32.ofNat j))) (.int ((xKb.getD i []).getD j 0)) ∈ xFlat))) = true := by decide +kernel
theorem fl_ne : (List.range 7).all (fun i => (List.range 7).all (fun j => decide (i = j) || decide (Cond.not (Cond.eq (xTmS i) (xTmS j)) ∈ xFlat) || decide (Cond.not (Cond.eq (xTmS j) (xTmS i)) ∈ xFlat))) = true := by decide +kernel
theorem fl_st : (List.range 7).all (fun i => decide (Cond.stringRef (xKt i).1 (xKt i).2.1 (xKt i).2.2 ∈ lw_tbl)) = true := by decide +kernel
theorem fl_at {p : Nat → Cond} {L : List Cond} {n : Nat} (h : (List.range n).all (fun i => decide (p i ∈ L)) = true) {i : Nat} (hi : i < n) : p i ∈ L := of_decide_eq_true (List.all_eq_true.mp h i (List.mem_range.mpr hi))
theorem fl_nn : (List.range 7).all (fun i => decide (xKl.getD i 0 < 2 ^ 31)) = true := by decide +kernel
theorem kz_start {s : State} {A : Array Value} (hts : ∀ w ∈ lw_tbl, w.before A s = true) (hgv : (Jvm.Cond.and given_1 narrow_1).before A s = true) : xZ (fun q => s.heap.size ≤ q) s s.heap := by
  have hA : ∀ a : Nat, a < s.heap.size → ¬ s.heap.size ≤ a := fun a h => Nat.not_le.mpr h
  have hf : ∀ c ∈ xFlat, c.before A s = true := flat_of_before _ hgv
  obtain ⟨adK, adV, h1, h2⟩ := vk_Sof (args := A) (s := s) (N := 7) (tm := xTmS) (len := xKl) (byt := xKb) (A := fun q => s.heap.size ≤ q) (fun i hi => of_decide_eq_true (List.all_eq_true.mp fl_nn i (List.mem_range.mpr hi))) (fun i hi => hf _ (fl_at fl_ex hi)) (fun i hi => hf _ (fl_at fl_co hi)) (fun i hi => hf _ (fl_at fl_ar hi)) (fun i hi => hf _ (fl_at fl_le hi)) (fun i hi j hj => hf _ (of_decide_eq_true (List.all_eq_true.mp (List.all_eq_true.mp fl_el i (List.mem_range.mpr hi)) j (List.mem_range.mpr hj)))) (fun i j hi hj hij => by
    have h9 := List.all_eq_true.mp (List.all_eq_true.mp fl_ne i (List.mem_range.mpr hi)) j (List.mem_range.mpr hj)
    rw [Bool.or_eq_true, Bool.or_eq_true] at h9
    rcases h9 with (h9 | h9) | h9
    · exact absurd (of_decide_eq_true h9) hij
    · exact Or.inl (hf _ (of_decide_eq_true h9))
    · exact Or.inr (hf _ (of_decide_eq_true h9))) hA
  refine ⟨⟨adK, adV, h1, fun i hi => vk_R.of (hts _ (fl_at fl_st hi)) (h2 i hi)⟩, ?_, ?_, ?_, ?_, ?_, ?_, ?_, ?_, ?_⟩
  · exact va_Zof (hts _ (List.mem_of_getElem? (i := 486) (by decide +kernel))) (hts (.initialized "java/lang/String") (by decide +kernel)) (va_eqt (hf _ (by decide +kernel))) hA
  · exact va_Zqof (hts _ (List.mem_of_getElem? (i := 502) (by decide +kernel))) (hts (.initialized "jdk/internal/util/Preconditions") (by decide +kernel)) (hf _ (by decide +kernel)) hA
  · exact vx_Zqof (hts _ (List.mem_of_getElem? (i := 1077) (by decide +kernel))) (hts (.initialized Bundle.tN) (by decide +kernel)) (hf _ (by decide +kernel)) hA
  · exact vx_Zqof (hts _ (List.mem_of_getElem? (i := 1079) (by decide +kernel))) (hts (.initialized Bundle.tN) (by decide +kernel)) (hf _ (by decide +kernel)) hA
  · exact va_AO.of (hts _ (List.mem_of_getElem? (i := 149) (by decide +kernel)))
  · exact va_AO.of (hts _ (List.mem_of_getElem? (i := 151) (by decide +kernel)))
  · exact va_AO.of (hts _ (List.mem_of_getElem? (i := 299) (by decide +kernel)))
  · exact va_AOA.of (hts _ (List.mem_of_getElem? (i := 147) (by decide +kernel)))
  · exact va_AOA.of (hts _ (List.mem_of_getElem? (i := 368) (by decide +kernel)))
