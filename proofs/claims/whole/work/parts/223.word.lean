/-! ===== ldc of a String constant and isWord ===== -/
theorem xV_isWord {J Jc : xJ} {X : xX} {n k : Nat} {h hl : xHp} {pc : Nat} {L : List (Nat × Value)} {rest : List Value} {y : MethodName} {v : Int32} {C : String} {kx idx i : Nat} {l : Launch} {g : Nat → Nat} (o : Nat) (ho : pc + 5 = o) {ci : Nat} {q : vw_C} (hi : i < 7) (hd : decode J.1 pc = .ok (.ldc kx, 2)) (hd2 : decode J.1 (pc + 2) = .ok (.invokevirtual idx, 3)) (hk : (xKt i).1 = J.2.2.1 ∧ (xKt i).2.1 = kx) (hl0 : X.1.2.1 = l) (hM : xCtW l y (some .boolean) Jc [.ref 0, .ref 1000] i hl (some (.int v)) hl) (hw : xMd y C (some .boolean) Jc 1) (hv : xMv y C) (hlk : Cond.methodLink J.2.2.1 idx y ∈ wsL_law0) (hci : vwCl[ci]? = some q) (hC : q.1 = C) (hsc : xScH 1000 hl)
    (hall : xEmb g hl hl h h ci) (hroom : (rest.map fun v => v.category).sum ≤ 8) (hdp : Jc.2.2.2.1 + 1 ≤ J.2.2.2.1) (hml : Jc.2.1 ≤ 21) (hf : n + Jc.2.2.2.2.1 ≤ J.2.2.2.2.1 ∧ k + Jc.2.2.2.2.2 ≤ J.2.2.2.2.2)
    (kk : xV J X (n + Jc.2.2.2.2.1) (k + Jc.2.2.2.2.2) h o L (.int v :: rest)) : xV J X n k h pc L (.ref (g 0) :: rest) := by
  subst ho
  obtain ⟨⟨p, l, e, s, m⟩, ⟨args, below, meth, c⟩, ⟨dC, dI, aC⟩, r, A, Q⟩ := X
  intro S hK hA H locs ls hP hD hS hll
  subst hl0
  obtain ⟨fs, hcb⟩ := hall.2.2.2.2.2
  have hs := xEmb_sub hall
  have hb := xEmb_back hall rfl
  obtain ⟨adK, adV, hvS, hvR⟩ := hK.2.2.1
  have hR := hvR i hi
  rw [hk.1, hk.2] at hR
  refine va_ldcS S.1 S.2.1 S.2.2.2.1 hR hd ?_
  obtain ⟨hPc, hDc⟩ := xCut hP hD hs
  have hcat : ∀ l : List Value, ((l.map (xv r)).map fun v => v.category) = l.map fun v => v.category := fun l => by
    rw [List.map_map]; exact List.map_congr_left (fun v _ => xv_cat r v)
  have hgood : GoodIn wsL_law0 (wsV J.2.2.1 idx C y (Cond.code y Jc.1 Jc.2.1 (some .boolean) :: wsL_law0)) := by
    intro w hw2
    rcases List.mem_append.mp hw2 with h9 | h9
    · have hm : w ∈ wsL_law0 := by
        simp only [List.mem_cons, List.not_mem_nil, or_false] at h9
        rcases h9 with rfl | rfl | rfl | rfl
        · exact hlk
        · exact hv.1
        · exact hv.2
        · exact hw.2.1
      exact ⟨hm, good_of_word (List.all_eq_true.mp xGood w hm)⟩
    · exact xGoodIn hw w h9
  obtain ⟨r2, hr2, h1000, h1001⟩ : ∃ r2 : Nat → Nat, (∀ j, j < 1000 → r2 j = r (g j)) ∧ r2 1000 = adK i ∧ r2 1001 = adV i := ⟨fun j => if j = 1000 then adK i else if j = 1001 then adV i else r (g j), fun j hj => by
    show (if j = 1000 then adK i else if j = 1001 then adV i else r (g j)) = _
    rw [if_neg (by omega), if_neg (by omega)], if_pos rfl, by
    show (if 1001 = 1000 then adK i else if 1001 = 1001 then adV i else r (g 1001)) = _
    rw [if_neg (by omega), if_pos rfl]⟩
  have eH : xH aC r2 hl = xH aC (fun j => r (g j)) hl := xH_cong (aC := aC) (r := fun j => r (g j)) hr2 hsc
  have eQ : ∀ A', xQ dC dI aC r2 (some (.int v)) hl A' = xQ dC dI aC (fun j => r (g j)) (some (.int v)) hl A' := fun A' => by
    unfold xQ
    rw [eH]
    rfl
  have hM2 := hM dC dI aC r2 H.size
  rw [eH, eQ] at hM2
  have hT2 : xStr i (r2 1000) (r2 1001) A s s.heap := by
    rw [h1000, h1001]
    exact hvS.1 i hi
  have hFr := xFree (dC := dC) (dI := dI) hs hA hD hS
  refine xRunOn (g := g) (hl := hl) (hl' := hl) (h' := h) (Jc := Jc) (rest := rest) (rv := some (.int v)) (a := (Value.ref (r (g 0)) :: [Value.ref (adK i)]).toArray) hs hb S hK hA hP hD hS hll ?_ kk
  refine va_runV (As := [Value.ref (adK i)]) (C := C) S hM2 (cwV 1 S.2.2.2.2 hgood rfl rfl rfl ⟨hw.2.2.1, hw.2.2.2⟩ ⟨hdp, ?_⟩) ⟨?_, ?_, fun U hU hW => ⟨?_, by rw [hU], by rw [hU]; exact hPc, by rw [hU]; exact hK.call hS hFr hW, hDc.weaken (fun _ _ _ _ => trivial), by rw [hU]; exact xStr.call hT2 hS hFr hW⟩⟩ rfl rfl hll.1 ?_ (lv_room (by rw [hcat]; exact hroom)) hd2 hf
  · show 8 + (Jc.2.1 + 11) + (41 * Jc.2.2.2.1 + 32) ≤ 41 * J.2.2.2.1 + 32
    omega
  · intro a U g mk q
    obtain ⟨q0, q1, qP, qK, qD, qT⟩ := q
    exact ⟨q0, q1, qP, qK.blind rfl, qD, qT.blind rfl⟩
  · have := va_recv hK.1 hP hci (xH_at hcb)
    rw [hC] at this
    exact this
  · show [Value.ref (r (g 0)), Value.ref (adK i)].toArray = [Value.ref (r2 0), Value.ref (r2 1000)].toArray
    rw [hr2 0 (by omega), h1000]
  · rfl
