/-! ===== call: meet ===== -/
theorem lowt_mul {A B : Int} (hB : 0 < B) : ∃ g : Int, 0 < g ∧ lowt A B 0 * g = A ∧ lowt A B 1 * g = B := by
  have gp : 0 < Nat.gcd A.natAbs B.natAbs := Nat.gcd_pos_of_pos_right _ (by omega)
  refine ⟨((Nat.gcd A.natAbs B.natAbs : Nat) : Int), by omega, ?_, ?_⟩
  · unfold lowt
    rw [if_pos rfl]
    exact Int.tdiv_mul_cancel (Int.ofNat_dvd_left.mpr (Nat.gcd_dvd_left _ _))
  · unfold lowt
    rw [if_neg (by decide)]
    exact Int.tdiv_mul_cancel (Int.ofNat_dvd_left.mpr (Nat.gcd_dvd_right _ _))
theorem lowt_bd {A B M : Int} (wh : Int) (h1 : -M ≤ A) (h2 : A ≤ M) (h3 : -M ≤ B) (h4 : B ≤ M) : -M ≤ lowt A B wh ∧ lowt A B wh ≤ M := by
  have key : ∀ (C : Int) (g : Nat), -M ≤ C → C ≤ M → -M ≤ C.tdiv (g : Int) ∧ C.tdiv (g : Int) ≤ M := by
    intro C g c1 c2
    have h := Int.natAbs_tdiv C (g : Int)
    have h' : (C.tdiv (g : Int)).natAbs ≤ C.natAbs := by rw [h]; exact Nat.div_le_self _ _
    omega
  unfold lowt
  by_cases q : wh = 0
  · rw [if_pos q]; exact key _ _ h1 h2
  · rw [if_neg q]; exact key _ _ h3 h4
theorem lowt_neg0 (A B : Int) : lowt (-A) B 0 = - lowt A B 0 := by
  unfold lowt
  rw [if_pos rfl, if_pos rfl, Int.natAbs_neg, Int.neg_tdiv]
theorem lowt_neg1 (A B : Int) : lowt (-A) B 1 = lowt A B 1 := by
  unfold lowt
  rw [if_neg (by decide), if_neg (by decide), Int.natAbs_neg]
theorem lowt_meet {A B A' B' : Int} (hB : 0 < B) (hB' : 0 < B') : A * B' + A' * B = 0 ↔ (lowt A B 0 = - lowt A' B' 0 ∧ lowt A B 1 = lowt A' B' 1) := by
  constructor
  · intro h
    have e : A * B' = (-A') * B := by rw [Int.neg_mul]; omega
    exact ⟨by rw [lowt_eq hB hB' e, lowt_neg0], by rw [lowt_eq hB hB' e, lowt_neg1]⟩
  · intro ⟨h0, h1⟩
    obtain ⟨g, gp, g0, g1⟩ := lowt_mul (A := A) hB
    obtain ⟨g', gp', g0', g1'⟩ := lowt_mul (A := A') hB'
    have e : A * B' + A' * B = (lowt A B 0 * g) * (lowt A' B' 1 * g') + (lowt A' B' 0 * g') * (lowt A B 1 * g) := by rw [g0, g1', g0', g1]
    rw [e, h0, h1]
    have : -lowt A' B' 0 * g * (lowt A' B' 1 * g') = -(lowt A' B' 0 * g' * (lowt A' B' 1 * g)) := by
      rw [Int.neg_mul, Int.neg_mul]
      congr 1
      simp only [Int.mul_assoc, Int.mul_comm, Int.mul_left_comm]
    omega
theorem call_meet {z K : Nat} (hz : 1000 ≤ z) {W : Nat → Int} {t : Int} {fo : Nat → Nat} {fields ties : Int32} {worth forces many : Nat → Int32} {codes : Nat → Nat → Int32} (hX : SX K W t fo fields ties worth forces many codes) {told manym eights gains : Nat → Int32} (hM : SM K W t fo told manym eights gains) {pN : Nat → Nat} {pI : Nat → Nat → Nat} {pW : Nat → Nat → Int} {pList pWei : Nat → Nat → Int32} {pMany pAll : Nat → Int32} (hP : PLr K fo pN pI pW pList pWei pMany pAll told) (thrown wall : Int32) (wmass : Nat → Nat → Int32) (fives shares : Nat → Int32) (alls : Int32) : ∃ v wall' wmass' shares' alls', F9_meet z fields ties worth many codes pList pWei pMany pAll wall wmass = some (v, wall', wmass') ∧ F10_meet z thrown told manym eights gains fives shares alls = some (v, 0, shares', alls') := by
  have q0 := hP 0 (by omega)
  have q1 := hP 1 (by omega)
  have pl0 : F10_planned 0 told = some (i3 (pN 0 : Nat)) := F10_planned_ok hP (s := 0) (by omega)
  have pl1 : F10_planned 1 told = some (i3 (pN 1 : Nat)) := F10_planned_ok hP (s := 1) (by omega)
  have h80 := q0.1
  have h81 := q1.1
  unfold F9_meet F10_meet
  rw [pl0]
  simp only [Option.bind_some]
  have hp0 : F9_hasPlan 0 pMany = some (if pN 0 = 0 then 0 else 1) := by
    show F9_hasPlan (i3 ((0 : Nat) : Int)) pMany = _
    unfold F9_hasPlan
    rw [isSide9 _ (by omega) (by omega), if_pos (by omega)]
    simp (disch := omega) only [Option.bind_some, xg_in, i3_xnN]
    rw [if_neg n10, q0.2.1]
    by_cases q : pN 0 = 0
    · rw [if_pos q, if_pos (by rw [q]; decide)]
    · rw [if_neg q, if_neg (by rw [i3_l0, i3_le (by omega) (by omega) (by omega) (by omega)]; omega)]
  have hp1 : F9_hasPlan 1 pMany = some (if pN 1 = 0 then 0 else 1) := by
    show F9_hasPlan (i3 ((1 : Nat) : Int)) pMany = _
    unfold F9_hasPlan
    rw [isSide9 _ (by omega) (by omega), if_pos (by omega)]
    simp (disch := omega) only [Option.bind_some, xg_in, i3_xnN]
    rw [if_neg n10, q1.2.1]
    by_cases q : pN 1 = 0
    · rw [if_pos q, if_pos (by rw [q]; decide)]
    · rw [if_neg q, if_neg (by rw [i3_l0, i3_le (by omega) (by omega) (by omega) (by omega)]; omega)]
  rw [hp0]
  simp only [Option.bind_some]
  by_cases z0 : pN 0 = 0
  · rw [if_pos z0, if_pos rfl, if_pos (by rw [z0]; rfl)]
    exact ⟨_, _, _, _, _, rfl, rfl⟩
  rw [if_neg z0, if_neg n10, if_neg (show ¬ i3 (pN 0 : Int) = 0 by rw [i3_l0, i3_eq (by omega) (by omega) (by omega) (by omega)]; omega), pl1, hp1]
  simp only [Option.bind_some]
  by_cases z1 : pN 1 = 0
  · rw [if_pos z1, if_pos rfl, if_pos (by rw [z1]; rfl)]
    exact ⟨_, _, _, _, _, rfl, rfl⟩
  rw [if_neg z1, if_neg n10, if_neg (show ¬ i3 (pN 1 : Int) = 0 by rw [i3_l0, i3_eq (by omega) (by omega) (by omega) (by omega)]; omega)]
  obtain ⟨mass1, -, a1, -, a3, -⟩ := holds_ok hz hX hM hP (s := 0) (by omega) wall wmass fives shares alls
  obtain ⟨mass2, -, b1, -, b3, -⟩ := holds_ok hz hX hM hP (s := 1) (by omega) (i3 (sm (pN 0) (pW 0))) mass1 fives shares alls
  have a1' : F9_spreadPlan z 0 fields codes pList pWei pMany wall wmass = _ := a1
  have a3' : F9_leastOfSpread z 0 fields ties worth many codes mass1 = _ := a3
  have b1' : F9_spreadPlan z 1 fields codes pList pWei pMany (i3 (sm (pN 0) (pW 0))) mass1 = _ := b1
  have b3' : F9_leastOfSpread z 1 fields ties worth many codes mass2 = _ := b3
  have w0 := wsum_bd hP (s := 0) (by omega) (pN 0) (Nat.le_refl _)
  have w1 := wsum_bd hP (s := 1) (by omega) (pN 1) (Nat.le_refl _)
  have g0 := pgn_bd hX.1 fo 0 (pN 0) (pI 0) (w := pW 0) (fun e he => by have := (q0.2.2.2.2.1 e he).2.1; omega) (amn (pgn K W t fo 0 (pN 0) (pI 0) (pW 0)) (ns K (fo (1 - 0))))
  have g1 := pgn_bd hX.1 fo 1 (pN 1) (pI 1) (w := pW 1) (fun e he => by have := (q1.2.2.2.2.1 e he).2.1; omega) (amn (pgn K W t fo 1 (pN 1) (pI 1) (pW 1)) (ns K (fo (1 - 1))))
  obtain ⟨G0, eG0⟩ : ∃ G, G = pgn K W t fo 0 (pN 0) (pI 0) (pW 0) (amn (pgn K W t fo 0 (pN 0) (pI 0) (pW 0)) (ns K (fo (1 - 0)))) := ⟨_, rfl⟩
  obtain ⟨G1, eG1⟩ : ∃ G, G = pgn K W t fo 1 (pN 1) (pI 1) (pW 1) (amn (pgn K W t fo 1 (pN 1) (pI 1) (pW 1)) (ns K (fo (1 - 1)))) := ⟨_, rfl⟩
  have H0 : ∀ (b : Int), (b = 0 ∨ b = 1) → ∀ (shares : Nat → Int32) (alls : Int32), ∃ shares' alls', F10_holdBy z 0 0 (i3 b) told manym eights gains fives shares alls = some (i3 (lowt G0 (sm (pN 0) (pW 0)) b), shares', alls') := fun b hb sh al => by rw [eG0]; exact holdBy_ok hz hX hM hP (s := 0) (by omega) (by omega) hb fives sh al
  have H1 : ∀ (b : Int), (b = 0 ∨ b = 1) → ∀ (shares : Nat → Int32) (alls : Int32), ∃ shares' alls', F10_holdBy z 1 0 (i3 b) told manym eights gains fives shares alls = some (i3 (lowt G1 (sm (pN 1) (pW 1)) b), shares', alls') := fun b hb sh al => by rw [eG1]; exact holdBy_ok hz hX hM hP (s := 1) (by omega) (by omega) hb fives sh al
  rw [← eG0] at a3' g0
  rw [← eG1] at b3' g1
  obtain ⟨s1, l1, c1⟩ := H0 0 (Or.inl rfl) shares alls
  obtain ⟨s2, l2, c2⟩ := H1 0 (Or.inl rfl) s1 l1
  obtain ⟨s3, l3, c3⟩ := H0 1 (Or.inr rfl) s2 l2
  obtain ⟨s4, l4, c4⟩ := H1 1 (Or.inr rfl) s3 l3
  have c1' : F10_holdBy z 0 0 0 told manym eights gains fives shares alls = _ := c1
  have c2' : F10_holdBy z 1 0 0 told manym eights gains fives s1 l1 = _ := c2
  have c3' : F10_holdBy z 0 0 1 told manym eights gains fives s2 l2 = _ := c3
  have c4' : F10_holdBy z 1 0 1 told manym eights gains fives s3 l3 = _ := c4
  have m1 : -10000 ≤ G0 * 1 ∧ G0 ≤ 10000 := by omega
  have k0 := lowt_bd (A := G0) (B := sm (pN 0) (pW 0)) (M := 10000) 0 (by omega) (by omega) (by omega) (by omega)
  have k1 := lowt_bd (A := G0) (B := sm (pN 0) (pW 0)) (M := 10000) 1 (by omega) (by omega) (by omega) (by omega)
  have k2 := lowt_bd (A := G1) (B := sm (pN 1) (pW 1)) (M := 10000) 0 (by omega) (by omega) (by omega) (by omega)
  have k3 := lowt_bd (A := G1) (B := sm (pN 1) (pW 1)) (M := 10000) 1 (by omega) (by omega) (by omega) (by omega)
  have x0 := mul_bd (a := G0 + 10000) (b := sm (pN 1) (pW 1)) (A := 20000) (B := 800) (by omega) (by omega) (by omega) (by omega)
  have x1 := mul_bd (a := G1 + 10000) (b := sm (pN 0) (pW 0)) (A := 20000) (B := 800) (by omega) (by omega) (by omega) (by omega)
  rw [Int.add_mul] at x0 x1
  have mt := lowt_meet (A := G0) (B := sm (pN 0) (pW 0)) (A' := G1) (B' := sm (pN 1) (pW 1)) (by omega) (by omega)
  rw [a1', c1']
  simp only [Option.bind_some]
  rw [a3', c2']
  simp only [Option.bind_some]
  rw [b1']
  simp only [Option.bind_some]
  rw [b3']
  simp only [Option.bind_some]
  rw [q0.2.2.2.1, q1.2.2.2.1, i3_mul, i3_mul, i3_add, i3_neg]
  by_cases y0 : lowt G0 (sm (pN 0) (pW 0)) 0 = - lowt G1 (sm (pN 1) (pW 1)) 0
  · rw [if_pos (show i3 (lowt G0 (sm (pN 0) (pW 0)) 0) = i3 (- lowt G1 (sm (pN 1) (pW 1)) 0) by rw [y0]), c3']
    simp only [Option.bind_some]
    rw [c4']
    simp only [Option.bind_some]
    by_cases y1 : lowt G0 (sm (pN 0) (pW 0)) 1 = lowt G1 (sm (pN 1) (pW 1)) 1
    · rw [if_pos (show i3 (lowt G0 (sm (pN 0) (pW 0)) 1) = i3 (lowt G1 (sm (pN 1) (pW 1)) 1) by rw [y1]), if_pos (by rw [mt.mpr ⟨y0, y1⟩]; rfl)]
      exact ⟨_, _, _, _, _, rfl, rfl⟩
    · rw [if_neg (show ¬ i3 (lowt G0 (sm (pN 0) (pW 0)) 1) = i3 (lowt G1 (sm (pN 1) (pW 1)) 1) by rw [i3_eq (by omega) (by omega) (by omega) (by omega)]; exact y1), if_neg (by rw [i3_l0, i3_eq (by omega) (by omega) (by omega) (by omega)]; exact fun q => y1 (mt.mp q).2)]
      exact ⟨_, _, _, _, _, rfl, rfl⟩
  · rw [if_neg (show ¬ i3 (lowt G0 (sm (pN 0) (pW 0)) 0) = i3 (- lowt G1 (sm (pN 1) (pW 1)) 0) by rw [i3_eq (by omega) (by omega) (by omega) (by omega)]; exact y0), if_neg (by rw [i3_l0, i3_eq (by omega) (by omega) (by omega) (by omega)]; exact fun q => y0 (mt.mp q).1)]
    exact ⟨_, _, _, _, _, rfl, rfl⟩
