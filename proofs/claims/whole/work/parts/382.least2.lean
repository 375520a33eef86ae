/-! ===== the class's least of those alike ===== -/
theorem swp_ok {K i j c : Nat} (hK : K ≤ 4) (hij : i < j) (hj : j < K) (hc : c < 8 ^ K) (h : dg K c j < dg K c i) : c + (dg K c i - dg K c j) * 8 ^ (K - 1 - j) - (dg K c i - dg K c j) * 8 ^ (K - 1 - i) < 8 ^ K ∧ (dg K c i - dg K c j) * 8 ^ (K - 1 - i) ≤ c + (dg K c i - dg K c j) * 8 ^ (K - 1 - j) := by
  have h1 := List.all_eq_true.mp chk_swp K (List.mem_range.mpr (by omega))
  have h2 := List.all_eq_true.mp h1 j (List.mem_range.mpr hj)
  have h3 := List.all_eq_true.mp h2 i (List.mem_range.mpr hij)
  have h4 := List.all_eq_true.mp h3 c (List.mem_range.mpr hc)
  simp only [if_pos h] at h4
  rw [Bool.and_eq_true, decide_eq_true_iff, decide_eq_true_iff] at h4
  exact h4
theorem swp_lt {K i j c : Nat} (hK : K ≤ 4) (hij : i < j) (hj : j < K) (hc : c < 8 ^ K) (E : Nat → Nat → Bool) : swp K E i c j < 8 ^ K := by
  unfold swp
  by_cases q : dg K c j < dg K c i
  · by_cases e : E i j = true
    · rw [if_pos (by rw [e, decide_eq_true q]; rfl)]; exact (swp_ok hK hij hj hc q).1
    · rw [if_neg (by rw [Bool.and_eq_true]; exact fun h => e h.1)]; exact hc
  · rw [if_neg (by rw [Bool.and_eq_true, decide_eq_true_iff]; exact fun h => q h.2)]; exact hc
theorem pow8 {K : Nat} (hK : K ≤ 4) : 8 ^ K ≤ 4096 := Nat.pow_le_pow_right (n := 8) (i := K) (j := 4) (by decide) hK
theorem oneOn_ok {K k : Nat} (hK : K ≤ 4) (hk : k < K) : F4_oneOn (i3 k) (i3 K) = some (i3 ((8 ^ (K - 1 - k) : Nat) : Int)) := by
  unfold F4_oneOn
  have h := i3_shl (c := 1) (j := K - 1 - k) (by omega) (by omega)
  rw [show (3 : Int32) * (i3 (K : Int) - 1 - i3 (k : Int)) = i3 ((3 * (K - 1 - k) : Nat) : Int) from by rw [i3_l1, i3_l3, i3_sub, i3_sub, i3_mul]; congr 1; omega, show (1 : Int32) = i3 ((1 : Nat) : Int) from rfl, h, Nat.one_mul]
theorem F4_leastAlike_ok {z K c : Nat} (hz : 20 ≤ z) {W : Nat → Int} {t : Int} (hV : Vd K W t) (hc : c < 8 ^ K) {worth : Nat → Int32} (hw : ∀ k, k < K → worth k = i3 (W k)) : F4_leastAlike z (i3 c) (i3 K) worth = some (i3 (lsa K (fun i j => decide (W i = W j)) c : Nat)) ∧ lsa K (fun i j => decide (W i = W j)) c < 8 ^ K := by
  have hK := hV.2.1
  have p8 := pow8 hK
  have inner : ∀ (i : Nat), i < K → ∀ (k4 : Int32 → Int32 → Int32 → (Nat → Int32) → Option Int32) (rem w j c : Nat), j + rem = K → i < j → c < 8 ^ K → rem < w → F4_leastAlike_b17 z w (i3 c) (i3 i) (i3 j) (i3 K) worth k4 = k4 (i3 (lin K (fun i j => decide (W i = W j)) i rem j c : Nat)) (i3 (i + 1 : Nat)) (i3 K) worth ∧ lin K (fun i j => decide (W i = W j)) i rem j c < 8 ^ K := by
    intro i hi k4 rem
    induction rem with
    | zero =>
      intro w j c hj hij hc hw'
      obtain ⟨w, rfl⟩ : ∃ w', w = w' + 1 := ⟨w - 1, by omega⟩
      refine ⟨?_, hc⟩
      unfold F4_leastAlike_b17
      rw [if_pos (by rw [i3_le (by omega) (by omega) (by omega) (by omega)]; omega)]
      unfold F4_leastAlike_b87
      rw [show i3 (i : Int) + 1 = i3 ((i + 1 : Nat) : Int) from by rw [i3_l1, i3_add]; rfl]
      rfl
    | succ rem ih =>
      intro w j c hj hij hc hw'
      obtain ⟨w, rfl⟩ : ∃ w', w = w' + 1 := ⟨w - 1, by omega⟩
      have hjK : j < K := by omega
      have wi := Vd_w hV hi
      have wj := Vd_w hV hjK
      have di := dg_lt K c i
      have dj := dg_lt K c j
      have ih' := ih w (j + 1) (swp K (fun i j => decide (W i = W j)) i c j) (by omega) (by omega) (swp_lt hK hij hjK hc _) (by omega)
      refine ⟨?_, ih'.2⟩
      refine Eq.trans ?_ ih'.1
      conv => lhs; unfold F4_leastAlike_b17
      rw [if_neg (show ¬ i3 (K : Int) ≤ i3 (j : Int) by rw [i3_le (by omega) (by omega) (by omega) (by omega)]; omega), F4_digit_ok hK (by omega) hi, F4_digit_ok hK (by omega) hjK]
      simp (disch := omega) only [xg_in, i3_xnN, Option.bind_some]
      rw [hw i hi, hw j hjK, oneOn_ok hK hi, oneOn_ok hK hjK, i3_sub]
      simp only [Option.bind_some]
      unfold F4_leastAlike_b81
      rw [show i3 (j : Int) + 1 = i3 ((j + 1 : Nat) : Int) from by rw [i3_l1, i3_add]; rfl]
      unfold swp
      by_cases e : W i = W j
      · rw [if_pos (show i3 (W i) = i3 (W j) by rw [e])]
        by_cases q : dg K c j < dg K c i
        · have so := swp_ok hK hij hjK hc q
          rw [if_neg (show ¬ i3 ((dg K c i : Int) - (dg K c j : Int)) ≤ 0 by rw [i3_l0, i3_le (by omega) (by omega) (by omega) (by omega)]; omega), if_pos (show (decide (W i = W j) && decide (dg K c j < dg K c i)) = true by rw [decide_eq_true e, decide_eq_true q]; rfl), i3_sub, i3_mul, i3_add]
          have ei : (c : Int) + ((dg K c i : Int) - (dg K c j : Int)) * (((8 ^ (K - 1 - j) : Nat) : Int) - ((8 ^ (K - 1 - i) : Nat) : Int)) = ((c + (dg K c i - dg K c j) * 8 ^ (K - 1 - j) - (dg K c i - dg K c j) * 8 ^ (K - 1 - i) : Nat) : Int) := by
            rw [Int.ofNat_sub so.2, Int.natCast_add, Int.natCast_mul, Int.natCast_mul, Int.ofNat_sub (Nat.le_of_lt q), Int.mul_sub]
            omega
          rw [ei]
        · rw [if_pos (show i3 ((dg K c i : Int) - (dg K c j : Int)) ≤ 0 by rw [i3_l0, i3_le (by omega) (by omega) (by omega) (by omega)]; omega), if_neg (show ¬ (decide (W i = W j) && decide (dg K c j < dg K c i)) = true by rw [Bool.and_eq_true, decide_eq_true_iff, decide_eq_true_iff]; exact fun h => q h.2)]
      · rw [if_neg (show ¬ i3 (W i) = i3 (W j) by rw [i3_eq (by omega) (by omega) (by omega) (by omega)]; exact e), if_neg (show ¬ (decide (W i = W j) && decide (dg K c j < dg K c i)) = true by rw [Bool.and_eq_true, decide_eq_true_iff]; exact fun h => e h.1)]
  have outer : ∀ (rem w i c : Nat), i + rem = K → c < 8 ^ K → rem < w → F4_leastAlike_b4 z w (i3 c) (i3 i) (i3 K) worth = some (i3 (lout K (fun i j => decide (W i = W j)) rem i c : Nat)) ∧ lout K (fun i j => decide (W i = W j)) rem i c < 8 ^ K := by
    intro rem
    induction rem with
    | zero =>
      intro w i c hi hc hw'
      obtain ⟨w, rfl⟩ : ∃ w', w = w' + 1 := ⟨w - 1, by omega⟩
      refine ⟨?_, hc⟩
      unfold F4_leastAlike_b4
      rw [if_pos (by rw [i3_le (by omega) (by omega) (by omega) (by omega)]; omega)]
      rfl
    | succ rem ih =>
      intro w i c hi hc hw'
      obtain ⟨w, rfl⟩ : ∃ w', w = w' + 1 := ⟨w - 1, by omega⟩
      have hn := inner i (by omega) (fun q0 q1 q2 q3 => F4_leastAlike_b4 z w q0 q1 q2 q3) (K - (i + 1)) z (i + 1) c (by omega) (by omega) hc (by omega)
      have ih' := ih w (i + 1) (lin K (fun i j => decide (W i = W j)) i (K - (i + 1)) (i + 1) c) (by omega) hn.2 (by omega)
      refine ⟨?_, ih'.2⟩
      unfold F4_leastAlike_b4
      rw [if_neg (show ¬ i3 (K : Int) ≤ i3 (i : Int) by rw [i3_le (by omega) (by omega) (by omega) (by omega)]; omega), show i3 (i : Int) + 1 = i3 ((i + 1 : Nat) : Int) from by rw [i3_l1, i3_add]; rfl]
      exact Eq.trans hn.1 ih'.1
  exact outer K z 0 c (by omega) hc (by omega)
