/-! ===== calls: mean, both ===== -/
theorem mss_mean (K : Nat) (c : Nat → Nat) (w : Nat → Int) (n k : Nat) : sm 8 (fun v => (v : Int) * mss K c w n k v) = sm n (fun e => w e * (dg K (c e) k : Int)) := by
  have h : ∀ v : Nat, v < 8 → (v : Int) * mss K c w n k v = sm n (fun e => if dg K (c e) k = v then w e * (dg K (c e) k : Int) else 0) := by
    intro v _
    unfold mss
    rw [← sm_mul]
    refine sm_congr (fun e _ => ?_)
    by_cases q : dg K (c e) k = v
    · rw [if_pos q, if_pos q, q, Int.mul_comm]
    · rw [if_neg q, if_neg q, Int.mul_zero]
  rw [sm_congr h, sm_comm]
  refine sm_congr (fun e _ => ?_)
  rw [sm_one (r := dg K (c e) k) (dg_lt _ _ _) (fun v _ hv => if_neg (fun q => hv q.symm)), if_pos rfl]
theorem call_mean {z K : Nat} (hz : 1000 ≤ z) {W : Nat → Int} {t : Int} {fo : Nat → Nat} {fields ties : Int32} {worth forces many : Nat → Int32} {codes : Nat → Nat → Int32} (hX : SX K W t fo fields ties worth forces many codes) {told manym eights gains : Nat → Int32} (hM : SM K W t fo told manym eights gains) {pN : Nat → Nat} {pI : Nat → Nat → Nat} {pW : Nat → Nat → Int} {pList pWei : Nat → Nat → Int32} {pMany pAll : Nat → Int32} (hP : PLr K fo pN pI pW pList pWei pMany pAll told) (x1 x2 x3 thrown wall : Int32) (wmass : Nat → Nat → Int32) : ∃ v wall' wmass', F9_mean z x1 x2 x3 fields codes pList pWei pMany wall wmass = some (v, wall', wmass') ∧ F10_mean z x1 x2 x3 thrown told manym eights = some (v, 0) := by
  obtain ⟨b, rfl, h3, h4⟩ := i3_ex x2
  obtain ⟨c, rfl, h5, h6⟩ := i3_ex x3
  have hK := hX.1.2.1
  have hK1 := hX.1.1
  have w2 := within10' h3 h4 (l := 0) (h := (K : Int) - 1) (by omega) (by omega) (by omega) (by omega) (L := 0) (H := told 0 - 1) rfl (by rw [hM.2.2.1, i3_l1, i3_sub])
  have w3 := within10' h5 h6 (l := 0) (h := 1) (by omega) (by omega) (by omega) (by omega) (L := 0) (H := 1) rfl rfl
  unfold F9_mean F10_mean
  rcases hasPlan_ok hP x1 with ⟨s, hs, rfl, g1, e9, e10⟩ | ⟨e9, e10⟩
  · obtain ⟨p1, p2, p3, p4, p5, p6⟩ := hP s hs
    have wb := wsum_bd hP hs (pN s) (Nat.le_refl _)
    rw [e9, e10]
    simp only [Option.bind_some]
    rw [if_neg n10, if_neg n10, hX.2.2.1]
    by_cases q : 0 ≤ b ∧ b ≤ (K : Int) - 1
    · obtain ⟨k, rfl⟩ : ∃ k : Nat, b = k := ⟨b.toNat, by omega⟩
      rw [w2.1 q, if_neg (show ¬ i3 (k : Int) < 0 by rw [i3_l0, i3_lt (by omega) (by omega) (by omega) (by omega)]; omega), if_neg (show ¬ i3 (K : Int) ≤ i3 (k : Int) by rw [i3_le (by omega) (by omega) (by omega) (by omega)]; omega), isPart9 c h5 h6]
      simp only [Option.bind_some]
      rw [if_neg n10]
      by_cases qc : c = 0 ∨ c = 1
      · rw [if_pos qc, if_neg n10, w3.1 (by omega)]
        simp only [Option.bind_some]
        rw [if_neg n10]
        obtain ⟨mass, e1, h1⟩ := spreadPlan_ok (z := z) (by omega) hX hP hs wall wmass
        rw [hX.2.2.1] at e1
        rw [e1]
        simp only [Option.bind_some]
        have l9 : ∀ (rem w v : Nat), v + rem = 8 → rem < w → F9_mean_b43 z w (i3 k) (i3 c) (i3 (sm v (fun v => (v : Int) * mss K (fun e => cd K (fo s) (pI s e)) (pW s) (pN s) k v))) (i3 v) (i3 K) codes pList pWei pMany (i3 (sm (pN s) (pW s))) mass = F9_mean_b76 z (i3 c) (i3 (sm 8 (fun v => (v : Int) * mss K (fun e => cd K (fo s) (pI s e)) (pW s) (pN s) k v))) (i3 K) codes pList pWei pMany (i3 (sm (pN s) (pW s))) mass := by
          intro rem
          induction rem with
          | zero =>
            intro w v hv hw
            obtain ⟨w, rfl⟩ : ∃ w', w = w' + 1 := ⟨w - 1, by omega⟩
            obtain rfl : v = 8 := by omega
            unfold F9_mean_b43
            rw [if_pos (by rw [i3_l7, i3_lt (by omega) (by omega) (by omega) (by omega)]; omega)]
          | succ rem ih =>
            intro w v hv hw
            obtain ⟨w, rfl⟩ : ∃ w', w = w' + 1 := ⟨w - 1, by omega⟩
            unfold F9_mean_b43
            rw [if_neg (by rw [i3_l7, i3_lt (by omega) (by omega) (by omega) (by omega)]; omega)]
            simp (disch := omega) only [xg_in, i3_xnN]
            rw [h1 k v (by omega) (by omega), i3_mul, i3_add, show i3 (v : Int) + 1 = i3 ((v + 1 : Nat) : Int) from by rw [i3_l1, i3_add]; rfl]
            exact ih w (v + 1) (by omega) (by omega)
        have l10 : ∀ (rem w e : Nat), e + rem = pN s → rem < w → F10_mean_b46 z w (i3 s) (i3 k) (i3 c) (i3 (sm e (fun e => pW s e * (dg K (cd K (fo s) (pI s e)) k : Int)))) (i3 e) 0 told manym eights = F10_mean_b88 z (i3 s) (i3 c) (i3 (sm (pN s) (fun e => pW s e * (dg K (cd K (fo s) (pI s e)) k : Int)))) 0 told manym eights := by
          intro rem
          induction rem with
          | zero =>
            intro w e he hw
            obtain ⟨w, rfl⟩ : ∃ w', w = w' + 1 := ⟨w - 1, by omega⟩
            obtain rfl : e = pN s := by omega
            unfold F10_mean_b46
            rw [F10_planned_ok hP hs]
            simp only [Option.bind_some]
            rw [if_pos (by rw [i3_le (by omega) (by omega) (by omega) (by omega)]; omega)]
          | succ rem ih =>
            intro w e he hw
            obtain ⟨w, rfl⟩ : ∃ w', w = w' + 1 := ⟨w - 1, by omega⟩
            unfold F10_mean_b46
            rw [F10_planned_ok hP hs]
            simp only [Option.bind_some]
            rw [if_neg (by rw [i3_le (by omega) (by omega) (by omega) (by omega)]; omega), F10_weightAt_ok hP hs (by omega), F10_planAt_ok (by omega) hM hP hs (by omega)]
            simp only [Option.bind_some]
            rw [F10_on_ok hM hs (p5 e (by omega)).1 (by omega)]
            simp only [Option.bind_some]
            rw [i3_mul, i3_add, show i3 (e : Int) + 1 = i3 ((e + 1 : Nat) : Int) from by rw [i3_l1, i3_add]; rfl]
            exact ih w (e + 1) (by omega) (by omega)
        have bd : 0 ≤ sm (pN s) (fun e => pW s e * (dg K (cd K (fo s) (pI s e)) k : Int)) ∧ sm (pN s) (fun e => pW s e * (dg K (cd K (fo s) (pI s e)) k : Int)) ≤ 10000 := by
          constructor
          · exact sm_nonneg (fun e he => Int.mul_nonneg (by have := (p5 e he).2.1; omega) (by omega))
          · have := sm_le (n := pN s) (f := fun e => pW s e * (dg K (cd K (fo s) (pI s e)) k : Int)) (g := fun e => 8 * pW s e) (fun e he => by
              have d8 := dg_lt K (cd K (fo s) (pI s e)) k
              have h1 := Int.mul_le_mul_of_nonneg_left (show (dg K (cd K (fo s) (pI s e)) k : Int) ≤ 8 by omega) (show 0 ≤ pW s e by have := (p5 e he).2.1; omega)
              show pW s e * (dg K (cd K (fo s) (pI s e)) k : Int) ≤ 8 * pW s e
              omega)
            rw [sm_mul] at this
            omega
        have f9 := l9 8 z 0 (by omega) (by omega)
        have f10 := l10 (pN s) z 0 (by omega) (by omega)
        have r10 : F10_mean_b88 z (i3 s) (i3 c) (i3 (sm (pN s) (fun e => pW s e * (dg K (cd K (fo s) (pI s e)) k : Int)))) 0 told manym eights = some (i3 (lowt (sm (pN s) (fun e => pW s e * (dg K (cd K (fo s) (pI s e)) k : Int))) (sm (pN s) (pW s)) c), 0) := by
          unfold F10_mean_b88
          rw [F10_weights_ok (by omega) hP hs]
          simp only [Option.bind_some]
          rw [i3_toI6 (by omega) (by omega), i3_toI6 (by omega) (by omega), F10_term_ok (by omega) (by omega) (by omega) (by omega) (by omega) qc]
          rfl
        have r9 : F9_mean_b76 z (i3 c) (i3 (sm 8 (fun v => (v : Int) * mss K (fun e => cd K (fo s) (pI s e)) (pW s) (pN s) k v))) (i3 K) codes pList pWei pMany (i3 (sm (pN s) (pW s))) mass = some (i3 (lowt (sm (pN s) (fun e => pW s e * (dg K (cd K (fo s) (pI s e)) k : Int))) (sm (pN s) (pW s)) c), i3 (sm (pN s) (pW s)), mass) := by
          unfold F9_mean_b76
          rw [mss_mean, i3_toI6 (by omega) (by omega), i3_toI6 (by omega) (by omega), F9_lowest_ok (by omega) (by omega) (by omega) (by omega) (by omega) qc]
          rfl
        exact ⟨_, _, _, Eq.trans f9 r9, Eq.trans f10 r10⟩
      · rw [if_neg qc, w3.2 (by omega)]
        exact ⟨_, _, _, rfl, rfl⟩
    · rw [w2.2 q]
      simp only [Option.bind_some, if_true]
      by_cases q0 : b < 0
      · rw [if_pos (show i3 b < 0 by rw [i3_l0, i3_lt (by omega) (by omega) (by omega) (by omega)]; omega)]
        exact ⟨_, _, _, rfl, rfl⟩
      · rw [if_neg (show ¬ i3 b < 0 by rw [i3_l0, i3_lt (by omega) (by omega) (by omega) (by omega)]; omega), if_pos (show i3 (K : Int) ≤ i3 b by rw [i3_le (by omega) (by omega) (by omega) (by omega)]; omega)]
        exact ⟨_, _, _, rfl, rfl⟩
  · rw [e9, e10]
    exact ⟨_, _, _, rfl, rfl⟩
