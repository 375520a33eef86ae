/-! ===== text and split as the law calls them; the script ===== -/
section XL2
variable {J Jc : xJ} {X : xX} {n k : Nat} {hx hx' t : xHp} {pc : Nat} {L : List (Nat × Value)} {st rest av2 : List Value} {y : MethodName} {ret : Option FieldType} {rv : Option Value} {C : String} {idx : Nat} {l : Launch}
theorem xV_textL (n0 : Nat) (hn : hx.length = n0) (hn' : hx'.length = n0) (o : Nat) (ho : pc + 3 = o) {ci : Nat} {fs : List Value} {q : vw_C} (hd : decode J.1 pc = .ok (.invokevirtual idx, 3)) (hl0 : X.1.2.1 = l) (hM : xCtP l y ret Jc (.ref 0 :: av2) hx rv hx') (hw : xMd y C ret Jc av2.length) (hv : xMv y C) (hlk : Cond.methodLink J.2.2.1 idx y ∈ wsL_law0) (hrv : ∀ r, rv.map (xv r) = rv) (hst : st = av2.reverse ++ .ref 0 :: rest) (hcb : hx[0]? = some (.inr (ci, fs))) (hci : vwCl[ci]? = some q) (hC : q.1 = C) (hroom : (rest.map fun v => v.category).sum ≤ 8) (hdp : Jc.2.2.2.1 + 1 ≤ J.2.2.2.1) (hml : Jc.2.1 ≤ 21) (hf : n + Jc.2.2.2.2.1 ≤ J.2.2.2.2.1 ∧ k + Jc.2.2.2.2.2 ≤ J.2.2.2.2.2)
    (hsc' : xScH n0 hx') (ht : ∀ c ∈ t, xOkE (fun j => n0 ≤ j) c) (hL : ∀ q ∈ L, xOkV (fun j => j = 0 ∨ n0 ≤ j) q.2) (hrest : ∀ v ∈ rest, xOkV (fun j => j = 0 ∨ n0 ≤ j) v)
    (kk : ∀ r' : Nat → Nat, (∀ j, j = 0 ∨ n0 ≤ j → r' j = X.2.2.2.1 j) → xV J (xsetr X r') (n + Jc.2.2.2.2.1) (k + Jc.2.2.2.2.2) (hx' ++ t) o L (rv.toList ++ rest)) : xV J X n k (hx ++ t) pc L st := by
  subst ho
  obtain ⟨⟨p, l, e, s, m⟩, ⟨args, below, meth, c⟩, ⟨dC, dI, aC⟩, r, A, Q⟩ := X
  intro S hK hA H locs ls hP hD hS hll
  subst hl0
  have hs := xSub_pre hx t
  obtain ⟨hPc, hDc⟩ := xCut hP hD hs
  have hcat : ∀ l : List Value, ((l.map (xv r)).map fun v => v.category) = l.map fun v => v.category := fun l => by
    rw [List.map_map]; exact List.map_congr_left (fun v _ => xv_cat r v)
  have hgood : GoodIn wsL_law0 (wsV J.2.2.1 idx C y (Cond.code y Jc.1 Jc.2.1 ret :: wsL_law0)) := by
    intro w hw2
    rcases List.mem_append.mp hw2 with h9 | h9
    · have hm : w ∈ wsL_law0 := by
        simp only [List.mem_cons, List.not_mem_nil, or_false] at h9
        rcases h9 with rfl | rfl | rfl | rfl
        · exact hlk
        · exact hv.1
        · exact hv.2
        · exact hw.2.1
      exact ⟨hm, good_of_word (List.all_eq_true.mp xGood w hm)⟩
    · exact xGoodIn hw w h9
  have hFr := xFree (dC := dC) (dI := dI) hs hA hD hS
  have hn1 : 0 < n0 := by rw [← hn]; exact (List.getElem?_eq_some_iff.mp hcb).1
  have hcb2 : (hx ++ t)[0]? = some (.inr (ci, fs)) := by rw [List.getElem?_append_left (by omega)]; exact hcb
  have hrun : va_Run p l e (xR J.2.2.2.1 J.2.2.2.2.1 J.2.2.2.2.2) s m args below meth c H locs n k Jc.2.2.2.2.1 Jc.2.2.2.2.2 (F0 m pc ls (st.map (xv r))) (rest.map (xv r)) (xQP dC dI aC (fun j => r j) rv hx' (va_A (xH aC (fun j => r j) hx) H.size) (Value.ref (r 0) :: av2.map (xv r)).toArray) (va_A (xH aC (fun j => r j) hx) H.size) := by
    refine va_runV (As := av2.map (xv r)) (C := C) S (hM dC dI aC (fun j => r j) H.size) (cwV av2.length S.2.2.2.2 hgood rfl rfl rfl ⟨hw.2.2.1, hw.2.2.2⟩ ⟨hdp, ?_⟩) ⟨xBlind, ?_, fun U hU hW => ⟨rfl, by rw [hU], by rw [hU]; exact hPc, by rw [hU]; exact hK.call hS hFr hW, hDc.weaken (fun _ _ _ _ => trivial)⟩⟩ rfl (by rw [List.length_map]) hll.1 ?_ (lv_room (by rw [hcat]; exact hroom)) hd hf
    · show 8 + (Jc.2.1 + 11) + (41 * Jc.2.2.2.1 + 32) ≤ 41 * J.2.2.2.1 + 32
      omega
    · have := va_recv hK.1 hP hci (xH_at hcb2)
      rw [hC] at this
      exact this
    · show st.map (xv r) = _
      rw [hst, List.map_append, List.map_reverse]
      rfl
  intro T hT XX
  obtain ⟨v, st₀, t1, T', L2, h00, X', hL2, e1, e2, ⟨⟨r2, hr20, hv9, hP1, hD1⟩, hz, hk2⟩, stp⟩ := hrun T hT XX
  cases hv9
  rw [h00] at hz hk2
  rw [← e1] at hP1 hz hk2
  obtain ⟨r', hrA, hrB⟩ : ∃ r' : Nat → Nat, (∀ j, j = 0 ∨ n0 ≤ j → r' j = r j) ∧ ∀ j, j < n0 → r' j = r2 j := ⟨fun j => if j < n0 then r2 j else r j, fun j hj => by
      show (if j < n0 then r2 j else r j) = r j
      rcases hj with rfl | hj
      · rw [if_pos hn1]; exact hr20
      · rw [if_neg (by omega)], fun j hj => if_pos hj⟩
  have hup : ∀ (i : Nat) (d : xE), t[i]? = some d → (hx ++ t)[n0 + i]? = some d := fun i d hd => by
    rw [List.getElem?_append_right (by omega), hn, show n0 + i - n0 = i by omega]; exact hd
  have hAc : ∀ q, va_A (xH aC (fun j => r j) hx) H.size q → (∃ j, j < n0 ∧ q = r j) ∨ H.size ≤ q := by
    rintro q (⟨j, e, he⟩ | he)
    · obtain ⟨c2, hc2, e2⟩ := xH_some he
      exact Or.inl ⟨j, by rw [← hn]; exact (List.getElem?_eq_some_iff.mp hc2).1, congrArg Prod.fst e2⟩
    · exact Or.inr he
  have hlow : ∀ (i : Nat) (d : xE), t[i]? = some d → r (n0 + i) < H.size ∧ ¬ va_A (xH aC (fun j => r j) hx) H.size (r (n0 + i)) := by
    intro i d hd
    have h1 := (hP (n0 + i) _ (xH_at (hup i d hd))).lt
    refine ⟨h1, fun hq => ?_⟩
    rcases hAc _ hq with ⟨j, hj, h2⟩ | h2
    · have hjc := List.getElem?_eq_getElem (l := hx ++ t) (i := j) (by rw [List.length_append]; omega)
      have := hD.1 (n0 + i) j _ _ (xH_at (aC := aC) (r := r) (hup i d hd)) (xH_at (aC := aC) (r := r) hjc) h2
      omega
    · have h3 : r (n0 + i) < H.size := h1
      omega
  have hnew : ∀ (i : Nat) (d : xE), (hx' ++ t)[i]? = some d → (i < n0 ∧ hx'[i]? = some d) ∨ ∃ j, i = n0 + j ∧ t[j]? = some d := by
    intro i d hd
    by_cases hi : i < n0
    · rw [List.getElem?_append_left (by omega)] at hd
      exact Or.inl ⟨hi, hd⟩
    · rw [List.getElem?_append_right (by omega), hn'] at hd
      exact Or.inr ⟨i - n0, by omega, hd⟩
  have hP2 : va_P (dC, dI) vwCl (xH aC r' (hx' ++ t)) T'.heap := by
    intro i q hq
    obtain ⟨d, hd, rfl⟩ := xH_some hq
    rcases hnew i d hd with ⟨hi, hd0⟩ | ⟨j, rfl, hdj⟩
    · rw [hrB i hi, xe_cong (N := n0) (r := r2) hrB (hsc'.2 d (List.mem_of_getElem? hd0))]
      exact hP1 i _ (xH_at hd0)
    · have h1 := hP (n0 + j) _ (xH_at (hup j d hdj))
      rw [hrA (n0 + j) (Or.inr (by omega)), xe_ok (P := fun j => n0 ≤ j) (fun j hj => hrA j (Or.inr hj)) (ht d (List.mem_of_getElem? hdj))]
      exact h1.kept (hk2 _ (hlow j d hdj).1 (hlow j d hdj).2)
  have hD2 : va_D A (xH aC r' (hx' ++ t)) := by
    refine ⟨fun i i2 p q hp hq hpq => ?_, fun i q hq => ?_⟩
    · obtain ⟨d, hd, rfl⟩ := xH_some hp
      obtain ⟨d2, hd2, rfl⟩ := xH_some hq
      have hpq : r' i = r' i2 := hpq
      have cross : ∀ (i : Nat) (d : xE) (j : Nat) (d' : xE), i < n0 → hx'[i]? = some d → t[j]? = some d' → r' i = r' (n0 + j) → False := by
        intro i d j d' h0 h1 h2 h3
        rw [hrB i h0, hrA (n0 + j) (Or.inr (by omega))] at h3
        have h4 : va_A (xH aC (fun j => r j) hx) H.size (r2 i) := hD1.2 i _ (xH_at (aC := aC) (r := r2) h1)
        rw [h3] at h4
        exact (hlow j d' h2).2 h4
      rcases hnew i d hd with ⟨hi, hd0⟩ | ⟨j, rfl, hdj⟩
      · rcases hnew i2 d2 hd2 with ⟨hi2, hd02⟩ | ⟨j2, rfl, hdj2⟩
        · rw [hrB i hi, hrB i2 hi2] at hpq
          exact hD1.1 i i2 _ _ (xH_at (aC := aC) (r := r2) hd0) (xH_at (aC := aC) (r := r2) hd02) hpq
        · exact (cross i d j2 d2 hi hd0 hdj2 hpq).elim
      · rcases hnew i2 d2 hd2 with ⟨hi2, hd02⟩ | ⟨j2, rfl, hdj2⟩
        · exact (cross i2 d2 j d hi2 hd02 hdj hpq.symm).elim
        · rw [hrA _ (Or.inr (by omega)), hrA _ (Or.inr (by omega))] at hpq
          exact hD.1 (n0 + j) (n0 + j2) _ _ (xH_at (aC := aC) (r := r) (hup j d hdj)) (xH_at (aC := aC) (r := r) (hup j2 d2 hdj2)) hpq
    · obtain ⟨d, hd, rfl⟩ := xH_some hq
      show A (r' i)
      rcases hnew i d hd with ⟨hi, hd0⟩ | ⟨j, rfl, hdj⟩
      · rw [hrB i hi]
        exact hFr _ (hD1.2 i _ (xH_at (aC := aC) (r := r2) hd0))
      · rw [hrA _ (Or.inr (by omega))]
        exact hD.2 (n0 + j) _ (xH_at (aC := aC) (r := r) (hup j d hdj))
  have hS2 : va_S A s.heap T'.heap (locs ++ L2) := ⟨Nat.le_trans hS.1 hz, fun q h1 h2 => by rw [hk2 q (Nat.lt_of_lt_of_le h1 hS.1) (fun z => h2 (hFr q z))]; exact hS.2.1 q h1 h2, fun q hq => by
      rcases List.mem_append.mp hq with h | h
      · exact hS.2.2 q h
      · exact hFr _ (hL2 q h)⟩
  have e5 : xL r' L = xL r L := xL_ok hrA hL
  have e6 : rest.map (xv r') = rest.map (xv r) := xS_ok hrA hrest
  obtain ⟨t2, a1, b1⟩ := kk r' hrA S hK hA T'.heap (locs ++ L2) ls hP2 hD2 hS2 (by rw [e5]; exact hll) T' rfl X'
  refine ⟨t2, stp t2 ?_, b1⟩
  have e7 : (rv.toList ++ rest).map (xv r') = (rv.map (xv r2)).toList ++ rest.map (xv r) := by
    rw [List.map_append, e6]
    congr 1
    have h8 := hrv r'
    have h9 := hrv r2
    cases rv with
    | none => rfl
    | some w =>
      show [xv r' w] = [xv r2 w]
      rw [Option.some.inj h8, Option.some.inj h9]
  rw [e7] at a1
  exact a1
end XL2
