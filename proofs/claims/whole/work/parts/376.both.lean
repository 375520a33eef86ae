/-! ===== call: both ===== -/
theorem hasPlan9 {K : Nat} {fo pN : Nat → Nat} {pI : Nat → Nat → Nat} {pW : Nat → Nat → Int} {pList pWei : Nat → Nat → Int32} {pMany pAll told : Nat → Int32} (hP : PLr K fo pN pI pW pList pWei pMany pAll told) {s : Nat} (hs : s < 2) : F9_hasPlan (i3 s) pMany = some (if pN s = 0 then 0 else 1) := by
  have h8 := (hP s hs).1
  unfold F9_hasPlan
  rw [isSide9 _ (by omega) (by omega), if_pos (by omega)]
  simp (disch := omega) only [Option.bind_some, xg_in, i3_xnN]
  rw [if_neg n10, (hP s hs).2.1]
  by_cases q : pN s = 0
  · rw [if_pos q, if_pos (by rw [q]; decide)]
  · rw [if_neg q, if_neg (by rw [i3_l0, i3_le (by omega) (by omega) (by omega) (by omega)]; omega)]
theorem call_both {z K : Nat} (hz : 1000 ≤ z) {W : Nat → Int} {t : Int} {fo : Nat → Nat} {fields ties : Int32} {worth forces many : Nat → Int32} {codes : Nat → Nat → Int32} (hX : SX K W t fo fields ties worth forces many codes) {told manym eights gains : Nat → Int32} (hM : SM K W t fo told manym eights gains) {pN : Nat → Nat} {pI : Nat → Nat → Nat} {pW : Nat → Nat → Int} {pList pWei : Nat → Nat → Int32} {pMany pAll : Nat → Int32} (hP : PLr K fo pN pI pW pList pWei pMany pAll told) (x1 thrown wall : Int32) (wmass : Nat → Nat → Int32) : ∃ v wall' wmass', F9_both z x1 fields ties worth codes pList pWei pMany pAll wall wmass = some (v, wall', wmass') ∧ F10_both z x1 thrown told manym eights gains = some (v, 0) := by
  obtain ⟨b, rfl, h3, h4⟩ := i3_ex x1
  have hwi := within10' h3 h4 (l := 0) (h := 1) (by omega) (by omega) (by omega) (by omega) (L := 0) (H := 1) rfl rfl
  obtain ⟨p1, p2, p3, p4, p5, p6⟩ := hP 0 (by omega)
  obtain ⟨r1, r2, r3, r4, r5, r6⟩ := hP 1 (by omega)
  have pl0 : F10_planned 0 told = some (i3 (pN 0 : Nat)) := F10_planned_ok hP (s := 0) (by omega)
  have pl1 : F10_planned 1 told = some (i3 (pN 1 : Nat)) := F10_planned_ok hP (s := 1) (by omega)
  have hp0 : F9_hasPlan 0 pMany = some (if pN 0 = 0 then 0 else 1) := hasPlan9 hP (s := 0) (by omega)
  have hp1 : F9_hasPlan 1 pMany = some (if pN 1 = 0 then 0 else 1) := hasPlan9 hP (s := 1) (by omega)
  have n1 := ns_bd hM.1 (hM.2.1 1 (by omega))
  have z0 : i3 (pN 0 : Int) = 0 ↔ pN 0 = 0 := by rw [i3_l0, i3_eq (by omega) (by omega) (by omega) (by omega)]; omega
  have z1 : i3 (pN 1 : Int) = 0 ↔ pN 1 = 0 := by rw [i3_l0, i3_eq (by omega) (by omega) (by omega) (by omega)]; omega
  unfold F9_both F10_both
  rw [hp0, hp1, pl0, pl1, isPart9 b h3 h4]
  simp only [Option.bind_some]
  by_cases q0 : pN 0 = 0
  · rw [if_pos q0, if_pos rfl]
    refine ⟨-100, _, _, rfl, ?_⟩
    by_cases qb : b = 0 ∨ b = 1
    · rw [hwi.1 (by omega)]
      simp only [Option.bind_some]
      rw [if_neg n10, if_pos (z0.mpr q0)]
    · rw [hwi.2 (by omega)]
      rfl
  rw [if_neg q0, if_neg n10, if_neg (fun q => q0 (z0.mp q))]
  by_cases q1 : pN 1 = 0
  · rw [if_pos q1, if_pos rfl]
    refine ⟨-100, _, _, rfl, ?_⟩
    by_cases qb : b = 0 ∨ b = 1
    · rw [hwi.1 (by omega)]
      simp only [Option.bind_some]
      rw [if_neg n10, if_pos (z1.mpr q1)]
    · rw [hwi.2 (by omega)]
      rfl
  rw [if_neg q1, if_neg n10, if_neg (fun q => q1 (z1.mp q))]
  by_cases qb : b = 0 ∨ b = 1
  · rw [if_pos qb, if_neg n10, hwi.1 (by omega)]
    simp only [Option.bind_some]
    rw [if_neg n10]
    have w0 := wsum_bd hP (s := 0) (by omega) (pN 0) (Nat.le_refl _)
    have w1 := wsum_bd hP (s := 1) (by omega) (pN 1) (Nat.le_refl _)
    obtain ⟨mass, e1, h1⟩ := spreadPlan_ok (z := z) (by omega) hX hP (s := 0) (by omega) wall wmass
    have e1' : F9_spreadPlan z 0 fields codes pList pWei pMany wall wmass = _ := e1
    rw [e1']
    simp only [Option.bind_some]
    have l9 : ∀ (rem w e : Nat), e + rem = pN 1 → rem < w → F9_both_b46 z w (i3 b) (i3 (sm e (fun e => pW 1 e * pgn K W t fo 0 (pN 0) (pI 0) (pW 0) (pI 1 e)))) (i3 e) fields ties worth codes pList pWei pMany pAll (i3 (sm (pN 0) (pW 0))) mass = F9_both_b101 z (i3 b) (i3 (sm (pN 1) (fun e => pW 1 e * pgn K W t fo 0 (pN 0) (pI 0) (pW 0) (pI 1 e)))) fields ties worth codes pList pWei pMany pAll (i3 (sm (pN 0) (pW 0))) mass := by
      intro rem
      induction rem with
      | zero =>
        intro w e he hw
        obtain ⟨w, rfl⟩ : ∃ w', w = w' + 1 := ⟨w - 1, by omega⟩
        obtain rfl : e = pN 1 := by omega
        unfold F9_both_b46
        rw [r2, if_pos (by rw [i3_le (by omega) (by omega) (by omega) (by omega)]; omega)]
      | succ rem ih =>
        intro w e he hw
        obtain ⟨w, rfl⟩ : ∃ w', w = w' + 1 := ⟨w - 1, by omega⟩
        obtain ⟨d1, d2, d3, d4, d5, -⟩ := r5 e (by omega)
        have eg : F6_gainFor z 0 (codes 1 (pI 1 e)) mass fields ties worth = _ := plan_gain9 (z := z) (by omega) hX (s := 0) (by omega) h1 (j := pI 1 e) d1
        unfold F9_both_b46
        rw [r2, if_neg (by rw [i3_le (by omega) (by omega) (by omega) (by omega)]; omega)]
        simp (disch := omega) only [xg_in, i3_xnN]
        rw [d4]
        simp (disch := omega) only [xg_in, i3_xnN]
        rw [eg, d5]
        simp only [Option.bind_some]
        rw [i3_mul, i3_add, show i3 (e : Int) + 1 = i3 ((e + 1 : Nat) : Int) from by rw [i3_l1, i3_add]; rfl]
        exact ih w (e + 1) (by omega) (by omega)
    have gq : ∀ e1 e2, e1 < pN 0 → e2 < pN 1 → F10_gainFor 0 (i3 (pI 0 e1 : Nat)) (i3 (pI 1 e2 : Nat)) gains = some (i3 (gsd K W t fo 0 (pI 0 e1) (pI 1 e2))) := fun e1 e2 h1 h2 => F10_gainFor_ok hM (s := 0) (by omega) (p5 e1 h1).1 (r5 e2 h2).1
    have in10 : ∀ (k38 : Int32 → Int64 → Int32 → Int32 → (Nat → Int32) → (Nat → Int32) → (Nat → Int32) → (Nat → Int32) → Option (Int32 × Int32)) (e1 : Nat) (A : Int), e1 < pN 0 → ∀ (rem w e : Nat), e + rem = pN 1 → rem < w → F10_both_b51 z w (i3 b) (i6 (A + sm e (fun e => pW 0 e1 * pW 1 e * gsd K W t fo 0 (pI 0 e1) (pI 1 e)))) (i3 e1) (i3 e) 0 told manym eights gains k38 = k38 (i3 b) (i6 (A + sm (pN 1) (fun e => pW 0 e1 * pW 1 e * gsd K W t fo 0 (pI 0 e1) (pI 1 e)))) (i3 (e1 + 1 : Nat)) 0 told manym eights gains := by
      intro k38 e1 A he1 rem
      induction rem with
      | zero =>
        intro w e he hw
        obtain ⟨w, rfl⟩ : ∃ w', w = w' + 1 := ⟨w - 1, by omega⟩
        obtain rfl : e = pN 1 := by omega
        unfold F10_both_b51
        rw [pl1]
        simp only [Option.bind_some]
        rw [if_pos (by rw [i3_le (by omega) (by omega) (by omega) (by omega)]; omega)]
        unfold F10_both_b108
        rw [show i3 (e1 : Int) + 1 = i3 ((e1 + 1 : Nat) : Int) from by rw [i3_l1, i3_add]; rfl]
      | succ rem ih =>
        intro w e he hw
        obtain ⟨w, rfl⟩ : ∃ w', w = w' + 1 := ⟨w - 1, by omega⟩
        have he' : e < pN 1 := by omega
        have gb := gsd_8 hX.1 fo 0 (pI 0 e1) (pI 1 e)
        have a1 : F10_weightAt 0 (i3 (e1 : Int)) told = _ := F10_weightAt_ok hP (s := 0) (by omega) he1
        have a2 : F10_weightAt 1 (i3 (e : Int)) told = _ := F10_weightAt_ok hP (s := 1) (by omega) he'
        have a3 : F10_planAt z 0 (i3 (e1 : Int)) told manym eights = _ := F10_planAt_ok (by omega) hM hP (s := 0) (by omega) he1
        have a4 : F10_planAt z 1 (i3 (e : Int)) told manym eights = _ := F10_planAt_ok (by omega) hM hP (s := 1) (by omega) he'
        have b1 := p5 e1 he1
        have b2 := r5 e he'
        unfold F10_both_b51
        rw [pl1]
        simp only [Option.bind_some]
        rw [if_neg (by rw [i3_le (by omega) (by omega) (by omega) (by omega)]; omega), a1, a2, a3, a4]
        simp only [Option.bind_some]
        rw [gq e1 e he1 he']
        simp only [Option.bind_some]
        rw [i3_toI6 (by omega) (by omega), i3_toI6 (by omega) (by omega), i3_toI6 (by omega) (by omega), i6_mul, i6_mul, i6_add, show i3 (e : Int) + 1 = i3 ((e + 1 : Nat) : Int) from by rw [i3_l1, i3_add]; rfl, Int.add_assoc]
        exact ih w (e + 1) (by omega) (by omega)
    have out10 : ∀ (rem w e1 : Nat), e1 + rem = pN 0 → rem < w → F10_both_b38 z w (i3 b) (i6 (sm e1 (fun e1 => sm (pN 1) (fun e => pW 0 e1 * pW 1 e * gsd K W t fo 0 (pI 0 e1) (pI 1 e))))) (i3 e1) 0 told manym eights gains = F10_both_b114 z (i3 b) (i6 (sm (pN 0) (fun e1 => sm (pN 1) (fun e => pW 0 e1 * pW 1 e * gsd K W t fo 0 (pI 0 e1) (pI 1 e))))) 0 told manym eights gains := by
      intro rem
      induction rem with
      | zero =>
        intro w e he hw
        obtain ⟨w, rfl⟩ : ∃ w', w = w' + 1 := ⟨w - 1, by omega⟩
        obtain rfl : e = pN 0 := by omega
        unfold F10_both_b38
        rw [pl0]
        simp only [Option.bind_some]
        rw [if_pos (by rw [i3_le (by omega) (by omega) (by omega) (by omega)]; omega)]
      | succ rem ih =>
        intro w e he hw
        obtain ⟨w, rfl⟩ : ∃ w', w = w' + 1 := ⟨w - 1, by omega⟩
        unfold F10_both_b38
        rw [pl0]
        simp only [Option.bind_some]
        rw [if_neg (by rw [i3_le (by omega) (by omega) (by omega) (by omega)]; omega)]
        have hh := in10 (fun q0 q1 q2 q3 q4 q5 q6 q7 => F10_both_b38 z w q0 q1 q2 q3 q4 q5 q6 q7) e (sm e (fun e1 => sm (pN 1) (fun e => pW 0 e1 * pW 1 e * gsd K W t fo 0 (pI 0 e1) (pI 1 e)))) (by omega) (pN 1) z 0 (by omega) (by omega)
        rw [show sm 0 (fun e' => pW 0 e * pW 1 e' * gsd K W t fo 0 (pI 0 e) (pI 1 e')) = 0 from rfl, Int.add_zero] at hh
        exact Eq.trans hh (ih w (e + 1) (by omega) (by omega))
    have same : sm (pN 0) (fun e1 => sm (pN 1) (fun e => pW 0 e1 * pW 1 e * gsd K W t fo 0 (pI 0 e1) (pI 1 e))) = sm (pN 1) (fun e => pW 1 e * pgn K W t fo 0 (pN 0) (pI 0) (pW 0) (pI 1 e)) := by
      rw [sm_comm]
      refine sm_congr (fun e _ => ?_)
      unfold pgn
      rw [← sm_mul]
      exact sm_congr (fun e1 _ => by rw [← Int.mul_assoc, Int.mul_comm (pW 1 e) (pW 0 e1)])
    have gb := fun j => pgn_bd hX.1 fo 0 (pN 0) (pI 0) (w := pW 0) (fun e he => by have := (p5 e he).2.1; omega) j
    have bd : -6400000 ≤ sm (pN 1) (fun e => pW 1 e * pgn K W t fo 0 (pN 0) (pI 0) (pW 0) (pI 1 e)) ∧ sm (pN 1) (fun e => pW 1 e * pgn K W t fo 0 (pN 0) (pI 0) (pW 0) (pI 1 e)) ≤ 6400000 := by
      have := sm_abs_le (n := pN 1) (f := fun e => pW 1 e * pgn K W t fo 0 (pN 0) (pI 0) (pW 0) (pI 1 e)) (g := fun e => 8000 * pW 1 e) (fun e he => by
        have g := gb (pI 1 e)
        have p := (r5 e he).2.1
        have a1 := Int.mul_le_mul_of_nonneg_left (show pgn K W t fo 0 (pN 0) (pI 0) (pW 0) (pI 1 e) ≤ 8000 by omega) (show 0 ≤ pW 1 e by omega)
        have a2 := Int.mul_le_mul_of_nonneg_left (show -8000 ≤ pgn K W t fo 0 (pN 0) (pI 0) (pW 0) (pI 1 e) by omega) (show 0 ≤ pW 1 e by omega)
        show -(8000 * pW 1 e) ≤ pW 1 e * pgn K W t fo 0 (pN 0) (pI 0) (pW 0) (pI 1 e) ∧ pW 1 e * pgn K W t fo 0 (pN 0) (pI 0) (pW 0) (pI 1 e) ≤ 8000 * pW 1 e
        omega)
      rw [sm_mul] at this
      omega
    have ab := mul_bd (a := sm (pN 0) (pW 0)) (b := sm (pN 1) (pW 1)) (A := 800) (B := 800) (by omega) (by omega) (by omega) (by omega)
    have abp : 0 < sm (pN 0) (pW 0) * sm (pN 1) (pW 1) := Int.mul_pos (by omega) (by omega)
    have f9 := l9 (pN 1) z 0 (by omega) (by omega)
    have f10 := out10 (pN 0) z 0 (by omega) (by omega)
    refine ⟨i3 (lowt (sm (pN 1) (fun e => pW 1 e * pgn K W t fo 0 (pN 0) (pI 0) (pW 0) (pI 1 e))) (sm (pN 0) (pW 0) * sm (pN 1) (pW 1)) b), i3 (sm (pN 0) (pW 0)), mass, Eq.trans f9 ?_, Eq.trans f10 ?_⟩
    · unfold F9_both_b101
      rw [r4, i3_mul, i3_toI6 (by omega) (by omega), i3_toI6 (by omega) (by omega), F9_lowest_ok (by omega) (by omega) (by omega) abp (by omega) qb]
      rfl
    · have a1 : F10_weights z 0 told = _ := F10_weights_ok (by omega) hP (s := 0) (by omega)
      have a2 : F10_weights z 1 told = _ := F10_weights_ok (by omega) hP (s := 1) (by omega)
      unfold F10_both_b114
      rw [a1, a2]
      simp only [Option.bind_some]
      rw [i3_toI6 (by omega) (by omega), i3_toI6 (by omega) (by omega), i6_mul, same, F10_term_ok (by omega) (by omega) (by omega) abp (by omega) qb]
      rfl
  · rw [if_neg qb, hwi.2 (by omega)]
    exact ⟨_, _, _, rfl, rfl⟩
