/-! ===== calls: ways, count ===== -/
theorem ways_loop {z z1 n : Nat} (hn : n ≤ 8) (x4 thrown : Int32) : ∀ (rem w w' m : Nat) (x5 : Int64), m + rem = n → 1 ≤ m → rem < w → rem < w' → ∃ r, F9_ways_b54 z w (i3 n) x4 x5 (i3 m) = some r ∧ F10_ways_b60 z1 w' (i3 n) x4 x5 (i3 m) thrown = F10_ways_b87 z1 x4 r thrown := by
  intro rem
  induction rem with
  | zero =>
    intro w w' m x5 hm h1 hw hw'
    obtain ⟨w, rfl⟩ : ∃ w', w = w' + 1 := ⟨w - 1, by omega⟩
    obtain ⟨w', rfl⟩ : ∃ w2, w' = w2 + 1 := ⟨w' - 1, by omega⟩
    have d : i3 (n : Int) ≤ i3 (m : Int) := by rw [i3_le (by omega) (by omega) (by omega) (by omega)]; omega
    unfold F9_ways_b54 F10_ways_b60
    rw [if_pos d, if_pos d]
    exact ⟨_, rfl, rfl⟩
  | succ rem ih =>
    intro w w' m x5 hm h1 hw hw'
    obtain ⟨w, rfl⟩ : ∃ w', w = w' + 1 := ⟨w - 1, by omega⟩
    obtain ⟨w', rfl⟩ : ∃ w2, w' = w2 + 1 := ⟨w' - 1, by omega⟩
    have d : ¬ i3 (n : Int) ≤ i3 (m : Int) := by rw [i3_le (by omega) (by omega) (by omega) (by omega)]; omega
    unfold F9_ways_b54 F10_ways_b60
    rw [if_neg d, if_neg d, i3_toI6 (by omega) (by omega), xnzl_i6 _ (by omega) (by omega) (by omega), xnzl_i6 _ (by omega) (by omega) (by omega), show i3 (m : Int) + 1 = i3 ((m + 1 : Nat) : Int) from by rw [i3_l1, i3_add]; rfl]
    exact ih w w' (m + 1) _ (by omega) (by omega) (by omega) (by omega)
theorem call_ways {z : Nat} (hz : 1000 ≤ z) (x1 x2 x3 thrown : Int32) : ∃ v : Int64, F9_ways z x1 x2 x3 = some v ∧ F10_ways z x1 x2 x3 thrown = some (v, 0) := by
  obtain ⟨a, rfl, h1, h2⟩ := i3_ex x1
  obtain ⟨b, rfl, h3, h4⟩ := i3_ex x2
  obtain ⟨c, rfl, h5, h6⟩ := i3_ex x3
  have w1 := within10' h1 h2 (l := 0) (h := 20) (by omega) (by omega) (by omega) (by omega) (L := 0) (H := 20) rfl rfl
  have w2 := within10' h3 h4 (l := 1) (h := 8) (by omega) (by omega) (by omega) (by omega) (L := 1) (H := 8) rfl rfl
  have w3 := within10' h5 h6 (l := 0) (h := 3) (by omega) (by omega) (by omega) (by omega) (L := 0) (H := 3) rfl rfl
  have a0 : i3 a < 0 ↔ a < 0 := by rw [i3_l0, i3_lt (by omega) (by omega) (by omega) (by omega)]
  have a1 : (20 : Int32) < i3 a ↔ 20 < a := by rw [i3_l20, i3_lt (by omega) (by omega) (by omega) (by omega)]
  have b0 : i3 b < 1 ↔ b < 1 := by rw [i3_l1, i3_lt (by omega) (by omega) (by omega) (by omega)]
  have b1 : (8 : Int32) < i3 b ↔ 8 < b := by rw [i3_l8, i3_lt (by omega) (by omega) (by omega) (by omega)]
  have c0 : i3 c < 0 ↔ c < 0 := by rw [i3_l0, i3_lt (by omega) (by omega) (by omega) (by omega)]
  have c1 : i3 c ≤ 3 ↔ c ≤ 3 := by rw [i3_l3, i3_le (by omega) (by omega) (by omega) (by omega)]
  unfold F9_ways F10_ways F9_ways_b30 F10_ways_b34
  by_cases q1 : 0 ≤ a ∧ a ≤ 20
  · rw [if_neg (by rw [a0]; omega), if_neg (by rw [a1]; omega), w1.1 q1]
    simp only [Option.bind_some]
    rw [if_neg n10]
    by_cases q2 : 1 ≤ b ∧ b ≤ 8
    · rw [if_neg (by rw [b0]; omega), if_neg (by rw [b1]; omega), w2.1 q2]
      simp only [Option.bind_some]
      rw [if_neg n10]
      by_cases q3 : 0 ≤ c ∧ c ≤ 3
      · rw [if_neg (by rw [c0]; omega), if_pos (by rw [c1]; omega), w3.1 q3]
        simp only [Option.bind_some]
        rw [if_neg n10]
        unfold F10_ways_b55
        obtain ⟨n, rfl⟩ : ∃ n : Nat, b = n := ⟨b.toNat, by omega⟩
        by_cases q4 : 0 ≤ i3 a - i3 (n : Int) * i3 c
        · obtain ⟨r, e9, e10⟩ := ways_loop (z := z) (z1 := z) (n := n) (by omega) (i3 a - i3 (n : Int) * i3 c) 0 (n - 1) z z 1 1 (by omega) (by omega) (by omega) (by omega)
          rw [if_pos q4, if_pos q4]
          refine ⟨r, e9, Eq.trans e10 ?_⟩
          unfold F10_ways_b87
          rw [if_pos q4]
        · obtain ⟨r, e9, e10⟩ := ways_loop (z := z) (z1 := z) (n := n) (by omega) (i3 a - i3 (n : Int) * i3 c) 0 (n - 1) z z 1 0 (by omega) (by omega) (by omega) (by omega)
          rw [if_neg q4, if_neg q4]
          refine ⟨0, rfl, Eq.trans e10 ?_⟩
          unfold F10_ways_b87
          rw [if_neg q4]
      · rw [w3.2 q3]
        simp only [Option.bind_some, if_true]
        by_cases q4 : c < 0
        · rw [if_pos (by rw [c0]; omega)]; exact ⟨_, rfl, rfl⟩
        · rw [if_neg (by rw [c0]; omega), if_neg (by rw [c1]; omega)]; exact ⟨_, rfl, rfl⟩
    · rw [w2.2 q2]
      simp only [Option.bind_some, if_true]
      by_cases q4 : b < 1
      · rw [if_pos (by rw [b0]; omega)]; exact ⟨_, rfl, rfl⟩
      · rw [if_neg (by rw [b0]; omega), if_pos (by rw [b1]; omega)]; exact ⟨_, rfl, rfl⟩
  · rw [w1.2 q1]
    simp only [Option.bind_some, if_true]
    by_cases q4 : a < 0
    · rw [if_pos (by rw [a0]; omega)]; exact ⟨_, rfl, rfl⟩
    · rw [if_neg (by rw [a0]; omega), if_pos (by rw [a1]; omega)]; exact ⟨_, rfl, rfl⟩
theorem call_count {z K : Nat} (hz : 1000 ≤ z) {W : Nat → Int} {t : Int} {fo : Nat → Nat} {fields ties : Int32} {worth forces many : Nat → Int32} {codes : Nat → Nat → Int32} (hX : SX K W t fo fields ties worth forces many codes) {told manym eights gains : Nat → Int32} (hM : SM K W t fo told manym eights gains) {bN : Nat → Nat} {bI : Nat → Nat → Nat} {bList : Nat → Nat → Int32} {bMany : Nat → Int32} (hB : BKr K fo bN bI bList bMany told) {pN : Nat → Nat} {pI : Nat → Nat → Nat} {pW : Nat → Nat → Int} {pList pWei : Nat → Nat → Int32} {pMany pAll : Nat → Int32} (hP : PLr K fo pN pI pW pList pWei pMany pAll told) {nN : Nat → Nat} {nS : Nat → Nat → Nat} {ntSeen : Nat → Nat → Int32} {ntMany notes seen : Nat → Int32} (hN : NTr K fo nN nS ntSeen ntMany notes seen) {tN : Nat} {bs : Nat → Nat} {tb tape : Nat → Int32} {tm ta : Int32} (hTp : TPr tN bs tb tm tape ta) (x1 thrown state : Int32) : ∃ v, F9_count z x1 state fields ties worth forces bMany pMany tm ntMany = some v ∧ F10_count z x1 thrown told notes state ta = some (v, 0) := by
  obtain ⟨a, rfl, h1, h2⟩ := i3_ex x1
  have w1 := within10' h1 h2 (l := 20) (h := 23) (by omega) (by omega) (by omega) (by omega) (L := 20) (H := 23) rfl rfl
  have e : ∀ (c : Int32) (d : Int), c = i3 d → -2147483648 ≤ d → d < 2147483648 → (i3 a = c ↔ a = d) := fun c d hc p q => by rw [hc, i3_eq h1 h2 p q]
  have hK := hX.1.2.1
  unfold F9_count F10_count
  by_cases q : 20 ≤ a ∧ a ≤ 23
  · rw [w1.1 q]
    simp only [Option.bind_some]
    rw [if_neg n10, if_neg (by rw [e 0 0 rfl (by omega) (by omega)]; omega), if_neg (by rw [e 1 1 rfl (by omega) (by omega)]; omega), if_neg (by rw [e 2 2 rfl (by omega) (by omega)]; omega), if_neg (by rw [e 3 3 rfl (by omega) (by omega)]; omega), if_neg (by rw [e 4 4 rfl (by omega) (by omega)]; omega), if_neg (by rw [e 5 5 rfl (by omega) (by omega)]; omega), if_neg (by rw [e 6 6 rfl (by omega) (by omega)]; omega), if_neg (by rw [e 7 7 rfl (by omega) (by omega)]; omega), if_neg (by rw [e 8 8 rfl (by omega) (by omega)]; omega), if_neg (by rw [e 9 9 rfl (by omega) (by omega)]; omega), if_neg (by rw [e 10 10 rfl (by omega) (by omega)]; omega), if_neg (by rw [e 11 11 rfl (by omega) (by omega)]; omega), if_neg (by rw [e 12 12 rfl (by omega) (by omega)]; omega)]
    obtain ⟨k, hk⟩ : ∃ k : Nat, a - 20 = k := ⟨(a - 20).toNat, by omega⟩
    rw [show i3 a - 20 = i3 (k : Int) from by rw [i3_l20, i3_sub, hk], hM.2.2.1, hX.2.2.1]
    unfold F9_worthOrNone
    rw [if_neg (show ¬ i3 (k : Int) < 0 by rw [i3_l0, i3_lt (by omega) (by omega) (by omega) (by omega)]; omega), if_pos (show i3 (k : Int) < 4 by rw [i3_l4, i3_lt (by omega) (by omega) (by omega) (by omega)]; omega)]
    by_cases q2 : K ≤ k
    · have d : i3 (K : Int) ≤ i3 (k : Int) := by rw [i3_le (by omega) (by omega) (by omega) (by omega)]; omega
      rw [if_pos d, if_pos d]
      exact ⟨_, rfl, rfl⟩
    · have d : ¬ i3 (K : Int) ≤ i3 (k : Int) := by rw [i3_le (by omega) (by omega) (by omega) (by omega)]; omega
      rw [if_neg d, if_neg d, F10_worth_ok hM (by omega)]
      simp (disch := omega) only [xg_in, i3_xnN, Option.bind_some]
      rw [hX.2.2.2.2.1 k (by omega)]
      exact ⟨_, rfl, rfl⟩
  · rw [w1.2 q]
    simp only [Option.bind_some, if_true]
    obtain ⟨x3, x4, x5, x6, x7, x8⟩ := hX.2.2
    obtain ⟨m3, m4, m5, m6, -⟩ := hM.2.2
    by_cases q0 : i3 a = 0
    · rw [if_pos q0, if_pos q0, x3, m3]; exact ⟨_, rfl, rfl⟩
    rw [if_neg q0, if_neg q0]
    by_cases q1 : i3 a = 1
    · rw [if_pos q1, if_pos q1, q1]
      exact ⟨_, rfl, by show some (told 5, _) = some (forces 0, _); rw [show told 5 = _ from m5 0 (by omega), show forces 0 = _ from x6 0 (by omega)]⟩
    rw [if_neg q1, if_neg q1]
    by_cases q2 : i3 a = 2
    · rw [if_pos q2, if_pos q2, q2]
      exact ⟨_, rfl, by show some (told 6, _) = some (forces 1, _); rw [show told 6 = _ from m5 1 (by omega), show forces 1 = _ from x6 1 (by omega)]⟩
    rw [if_neg q2, if_neg q2]
    by_cases q3 : i3 a = 3
    · rw [if_pos q3, if_pos q3, x4, m6]; exact ⟨_, rfl, rfl⟩
    rw [if_neg q3, if_neg q3]
    by_cases q4 : i3 a = 4
    · rw [if_pos q4, if_pos q4, F10_worths_ok (by omega) hK m3 m4, x3, F4_allWorth_ok (by omega) hK x5]; exact ⟨_, rfl, rfl⟩
    rw [if_neg q4, if_neg q4]
    by_cases q5 : i3 a = 5
    · rw [if_pos q5, if_pos q5, q5]
      unfold F10_count_b142
      rw [show (5 : Int32) - 5 = i3 ((0 : Nat) : Int) from rfl, F10_booked_ok hB (by omega)]
      exact ⟨_, rfl, by show some (_, _) = some (bMany 0, _); rw [(hB 0 (by omega)).2.1]⟩
    rw [if_neg q5, if_neg q5]
    by_cases q6 : i3 a = 6
    · rw [if_pos q6, if_pos q6, q6]
      unfold F10_count_b142
      rw [show (6 : Int32) - 5 = i3 ((1 : Nat) : Int) from rfl, F10_booked_ok hB (by omega)]
      exact ⟨_, rfl, by show some (_, _) = some (bMany 1, _); rw [(hB 1 (by omega)).2.1]⟩
    rw [if_neg q6, if_neg q6]
    by_cases q7 : i3 a = 7
    · rw [if_pos q7, if_pos q7, q7]
      unfold F10_count_b150
      rw [show (7 : Int32) - 7 = i3 ((0 : Nat) : Int) from rfl, F10_planned_ok hP (by omega)]
      exact ⟨_, rfl, by show some (_, _) = some (pMany 0, _); rw [(hP 0 (by omega)).2.1]⟩
    rw [if_neg q7, if_neg q7]
    by_cases q8 : i3 a = 8
    · rw [if_pos q8, if_pos q8, q8]
      unfold F10_count_b150
      rw [show (8 : Int32) - 7 = i3 ((1 : Nat) : Int) from rfl, F10_planned_ok hP (by omega)]
      exact ⟨_, rfl, by show some (_, _) = some (pMany 1, _); rw [(hP 1 (by omega)).2.1]⟩
    rw [if_neg q8, if_neg q8]
    by_cases q9 : i3 a = 9
    · rw [if_pos q9, if_pos q9, q9]
      exact ⟨_, rfl, by show some (notes 0, _) = some (ntMany 0, _); rw [(hN 0 (by omega)).2.1, (hN 0 (by omega)).2.2.1]⟩
    rw [if_neg q9, if_neg q9]
    by_cases q10 : i3 a = 10
    · rw [if_pos q10, if_pos q10, q10]
      exact ⟨_, rfl, by show some (notes 1, _) = some (ntMany 1, _); rw [(hN 1 (by omega)).2.1, (hN 1 (by omega)).2.2.1]⟩
    rw [if_neg q10, if_neg q10]
    by_cases q11 : i3 a = 11
    · rw [if_pos q11, if_pos q11]; exact ⟨_, rfl, rfl⟩
    rw [if_neg q11, if_neg q11]
    by_cases q12 : i3 a = 12
    · rw [if_pos q12, if_pos q12, hTp.2.1, hTp.2.2.1]; exact ⟨_, rfl, rfl⟩
    rw [if_neg q12, if_neg q12]
    refine ⟨-100, ?_, rfl⟩
    unfold F9_worthOrNone
    rw [show i3 a - 20 = i3 (a - 20) from by rw [i3_l20, i3_sub]]
    by_cases q13 : -2147483648 ≤ a - 20
    · by_cases q14 : a - 20 < 0
      · rw [if_pos (show i3 (a - 20) < 0 by rw [i3_l0, i3_lt (by omega) (by omega) (by omega) (by omega)]; omega)]; rfl
      · rw [if_neg (show ¬ i3 (a - 20) < 0 by rw [i3_l0, i3_lt (by omega) (by omega) (by omega) (by omega)]; omega), if_neg (show ¬ i3 (a - 20) < 4 by rw [i3_l4, i3_lt (by omega) (by omega) (by omega) (by omega)]; omega)]; rfl
    · have ew : i3 (a - 20) = i3 (a - 20 + 4294967296) := by
        apply Int32.toBitVec.inj
        show BitVec.ofInt 32 _ = BitVec.ofInt 32 _
        apply BitVec.eq_of_toInt_eq
        rw [BitVec.toInt_ofInt, BitVec.toInt_ofInt]
        unfold Int.bmod
        rw [show a - 20 + 4294967296 = a - 20 + ((2 ^ 32 : Nat) : Int) from rfl, Int.add_emod_right]
      rw [ew, if_neg (show ¬ i3 (a - 20 + 4294967296) < 0 by rw [i3_l0, i3_lt (by omega) (by omega) (by omega) (by omega)]; omega), if_neg (show ¬ i3 (a - 20 + 4294967296) < 4 by rw [i3_l4, i3_lt (by omega) (by omega) (by omega) (by omega)]; omega)]; rfl
