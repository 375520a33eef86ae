/-! ===== calls: reply, hold, meet ===== -/
theorem gsd_8 {K : Nat} {W : Nat → Int} {t : Int} (hV : Vd K W t) (fo : Nat → Nat) (s i j : Nat) : -8 ≤ gsd K W t fo s i j ∧ gsd K W t fo s i j ≤ 8 := by
  unfold gsd
  by_cases q : s = 0
  · rw [if_pos q]; exact gn_bd hV _ _
  · rw [if_neg q]; have := gn_bd hV (cd K (fo 0) j) (cd K (fo 1) i); omega
/-- what entries gain together against j -/
def pgn (K : Nat) (W : Nat → Int) (t : Int) (fo : Nat → Nat) (s n : Nat) (f : Nat → Nat) (w : Nat → Int) (j : Nat) : Int := sm n (fun e => w e * gsd K W t fo s (f e) j)
theorem pgn_bd {K : Nat} {W : Nat → Int} {t : Int} (hV : Vd K W t) (fo : Nat → Nat) (s n : Nat) (f : Nat → Nat) {w : Nat → Int} (hw : ∀ e, e < n → 0 ≤ w e) (j : Nat) : -(8 * sm n w) ≤ pgn K W t fo s n f w j ∧ pgn K W t fo s n f w j ≤ 8 * sm n w := by
  rw [← sm_mul]
  refine sm_abs_le (fun e he => ?_)
  have h := gsd_8 hV fo s (f e) j
  have h1 := Int.mul_le_mul_of_nonneg_left h.1 (hw e he)
  have h2 := Int.mul_le_mul_of_nonneg_left h.2 (hw e he)
  have : w e * (-8) = -(8 * w e) := by omega
  omega
theorem plan_gain9 {z K : Nat} (hz : 20 ≤ z) {W : Nat → Int} {t : Int} {fo : Nat → Nat} {fields ties : Int32} {worth forces many : Nat → Int32} {codes : Nat → Nat → Int32} (hX : SX K W t fo fields ties worth forces many codes) {s n : Nat} (hs : s < 2) {f : Nat → Nat} {w : Nat → Int} {mass : Nat → Nat → Int32} (hm : Ms K (mss K (fun e => cd K (fo s) (f e)) w n) mass) {j : Nat} (hj : j < ns K (fo (1 - s))) : F6_gainFor z (i3 s) (codes (1 - s) j) mass fields ties worth = some (i3 (pgn K W t fo s n f w j)) := by
  rw [hX.2.2.2.2.2.2.2 _ _ (by omega) hj, hX.2.2.1, hX.2.2.2.1, F6_gainFor_ok hz hX.1 (cd_lt hX.1.2.1 hj) hs hX.2.2.2.2.1 hm, mss_gain]
  unfold pgn
  rw [sm_congr (fun e _ => by rw [sgd_gsd hs])]
theorem laysShares0_ok {z K : Nat} (hz : 200 ≤ z) {W : Nat → Int} {t : Int} {fo : Nat → Nat} {told many eights gains : Nat → Int32} (hM : SM K W t fo told many eights gains) {pN : Nat → Nat} {pI : Nat → Nat → Nat} {pW : Nat → Nat → Int} {pList pWei : Nat → Nat → Int32} {pMany pAll : Nat → Int32} (hP : PLr K fo pN pI pW pList pWei pMany pAll told) {s : Nat} (hs : s < 2) (fives shares : Nat → Int32) (allShares : Int32) : ∃ shares', F10_laysShares z (i3 s) 0 told many eights fives shares allShares = some (shares', i3 (24 * sm (pN s) (pW s))) ∧ ∀ i, i < 128 → shares' i = i3 (sm (pN s) (fun e => if pI s e = i then 24 * pW s e else 0)) := by
  obtain ⟨p1, p2, p3, p4, p5, p6⟩ := hP s hs
  have n0 := ns_bd hM.1 (hM.2.1 s hs)
  have clr : ∀ (rem w m : Nat) (shares : Nat → Int32), m + rem = 128 → rem < w → (∀ i, i < m → shares i = 0) → ∃ shares', F10_laysShares_b2 z w (i3 s) 0 (i3 m) told many eights fives shares allShares = F10_laysShares_b22 z (i3 s) 0 told many eights fives shares' allShares ∧ ∀ i, i < 128 → shares' i = 0 := by
    intro rem
    induction rem with
    | zero =>
      intro w m shares hm hw h
      obtain ⟨w, rfl⟩ : ∃ w', w = w' + 1 := ⟨w - 1, by omega⟩
      refine ⟨shares, ?_, fun i hi => h i (by omega)⟩
      unfold F10_laysShares_b2
      rw [if_pos (by rw [i3_l128, i3_le (by omega) (by omega) (by omega) (by omega)]; omega)]
    | succ rem ih =>
      intro w m shares hm hw h
      obtain ⟨w, rfl⟩ : ∃ w', w = w' + 1 := ⟨w - 1, by omega⟩
      unfold F10_laysShares_b2
      rw [if_neg (by rw [i3_l128, i3_le (by omega) (by omega) (by omega) (by omega)]; omega)]
      simp (disch := omega) only [xg_in, i3_xnN]
      rw [show i3 (m : Int) + 1 = i3 ((m + 1 : Nat) : Int) from by rw [i3_l1, i3_add]; rfl]
      refine ih w (m + 1) _ (by omega) (by omega) (fun i hi => ?_)
      by_cases e : i = m
      · subst e; exact upd_same _ _ _
      · rw [upd_diff _ _ e]; exact h i (by omega)
  have loop : ∀ (rem w e : Nat) (shares : Nat → Int32) (al : Int32), e + rem = pN s → rem < w → (∀ i, i < 128 → shares i = i3 (sm e (fun e => if pI s e = i then 24 * pW s e else 0))) → ∃ shares', F10_laysShares_b36 z w (i3 s) 0 (i3 e) told many eights fives shares al = some (shares', al) ∧ ∀ i, i < 128 → shares' i = i3 (sm (pN s) (fun e => if pI s e = i then 24 * pW s e else 0)) := by
    intro rem
    induction rem with
    | zero =>
      intro w e shares al he hw h
      obtain ⟨w, rfl⟩ : ∃ w', w = w' + 1 := ⟨w - 1, by omega⟩
      obtain rfl : e = pN s := by omega
      refine ⟨shares, ?_, h⟩
      unfold F10_laysShares_b36
      rw [F10_planned_ok hP hs]
      simp only [Option.bind_some]
      rw [if_pos (by rw [i3_le (by omega) (by omega) (by omega) (by omega)]; omega)]
    | succ rem ih =>
      intro w e shares al he hw h
      obtain ⟨w, rfl⟩ : ∃ w', w = w' + 1 := ⟨w - 1, by omega⟩
      obtain ⟨d1, d2, d3, d4, d5, -⟩ := p5 e (by omega)
      unfold F10_laysShares_b36
      rw [F10_planned_ok hP hs]
      simp only [Option.bind_some]
      rw [if_neg (by rw [i3_le (by omega) (by omega) (by omega) (by omega)]; omega), F10_planAt_ok hz hM hP hs (by omega)]
      simp only [Option.bind_some, if_true]
      rw [F10_weightAt_ok hP hs (by omega)]
      simp (disch := omega) only [xg_in, i3_xnN, Option.bind_some]
      unfold F10_laysShares_b146
      rw [h _ (by omega), i3_l24, i3_mul, i3_add, show i3 (e : Int) + 1 = i3 ((e + 1 : Nat) : Int) from by rw [i3_l1, i3_add]; rfl]
      refine ih w (e + 1) _ al (by omega) (by omega) (fun i hi => ?_)
      show _ = i3 (sm e (fun e => if pI s e = i then 24 * pW s e else 0) + (if pI s e = i then 24 * pW s e else 0))
      by_cases q : i = pI s e
      · subst q
        rw [upd_same, if_pos rfl]
      · rw [upd_diff _ _ q, if_neg (fun q2 => q q2.symm), Int.add_zero]
        exact h i hi
  obtain ⟨s1, e1, h1⟩ := clr 128 z 0 shares (by omega) (by omega) (fun i hi => absurd hi (Nat.not_lt_zero i))
  obtain ⟨s2, e2, h2⟩ := loop (pN s) z 0 s1 (i3 (24 * sm (pN s) (pW s))) (by omega) (by omega) (fun i hi => h1 i hi)
  refine ⟨s2, ?_, h2⟩
  unfold F10_laysShares
  refine Eq.trans e1 ?_
  unfold F10_laysShares_b22
  rw [F10_weights_ok (by omega) hP hs]
  simp only [Option.bind_some]
  rw [i3_l24, i3_mul]
  exact e2
theorem shares_gain {K : Nat} {W : Nat → Int} {t : Int} (fo : Nat → Nat) (s n N : Nat) {f : Nat → Nat} (w : Nat → Int) (hf : ∀ e, e < n → f e < N) (j : Nat) : sm N (fun i => sm n (fun e => if f e = i then 24 * w e else 0) * gsd K W t fo s i j) = 24 * pgn K W t fo s n f w j := by
  unfold pgn
  rw [← sm_mul]
  have h : ∀ i, i < N → sm n (fun e => if f e = i then 24 * w e else 0) * gsd K W t fo s i j = sm n (fun e => if f e = i then 24 * (w e * gsd K W t fo s (f e) j) else 0) := by
    intro i _
    rw [Int.mul_comm, ← sm_mul]
    refine sm_congr (fun e _ => ?_)
    by_cases q : f e = i
    · rw [if_pos q, if_pos q, q, Int.mul_comm, Int.mul_assoc]
    · rw [if_neg q, if_neg q, Int.mul_zero]
  rw [sm_congr h, sm_comm]
  refine sm_congr (fun e he => ?_)
  rw [sm_one (r := f e) (hf e he) (fun i _ hi => if_neg (fun q => hi q.symm)), if_pos rfl]
/-- all about a plan's hold, at once -/
theorem holds_ok {z K : Nat} (hz : 1000 ≤ z) {W : Nat → Int} {t : Int} {fo : Nat → Nat} {fields ties : Int32} {worth forces many : Nat → Int32} {codes : Nat → Nat → Int32} (hX : SX K W t fo fields ties worth forces many codes) {told manym eights gains : Nat → Int32} (hM : SM K W t fo told manym eights gains) {pN : Nat → Nat} {pI : Nat → Nat → Nat} {pW : Nat → Nat → Int} {pList pWei : Nat → Nat → Int32} {pMany pAll : Nat → Int32} (hP : PLr K fo pN pI pW pList pWei pMany pAll told) {s : Nat} (hs : s < 2) (wall : Int32) (wmass : Nat → Nat → Int32) (fives shares : Nat → Int32) (alls : Int32) : ∃ mass' shares', F9_spreadPlan z (i3 s) fields codes pList pWei pMany wall wmass = some (i3 (sm (pN s) (pW s)), mass') ∧ F9_replyToSpread z (i3 s) fields ties worth many codes mass' = some (i3 (amn (pgn K W t fo s (pN s) (pI s) (pW s)) (ns K (fo (1 - s))) : Nat)) ∧ F9_leastOfSpread z (i3 s) fields ties worth many codes mass' = some (i3 (pgn K W t fo s (pN s) (pI s) (pW s) (amn (pgn K W t fo s (pN s) (pI s) (pW s)) (ns K (fo (1 - s)))))) ∧ F10_laysShares z (i3 s) 0 told manym eights fives shares alls = some (shares', i3 (24 * sm (pN s) (pW s))) ∧ F10_replyTo z (i3 s) manym gains shares' = some (i3 (amn (pgn K W t fo s (pN s) (pI s) (pW s)) (ns K (fo (1 - s))) : Nat)) ∧ F10_gainBy z (i3 s) (i3 (amn (pgn K W t fo s (pN s) (pI s) (pW s)) (ns K (fo (1 - s))) : Nat)) manym gains shares' = some (i3 (24 * pgn K W t fo s (pN s) (pI s) (pW s) (amn (pgn K W t fo s (pN s) (pI s) (pW s)) (ns K (fo (1 - s)))))) := by
  obtain ⟨p1, p2, p3, p4, p5, p6⟩ := hP s hs
  have n0 := ns_bd hM.1 (hM.2.1 s hs)
  have n1 := ns_bd hM.1 (hM.2.1 (1 - s) (by omega))
  have wb := wsum_bd hP hs (pN s) (Nat.le_refl _)
  have gb := fun j => pgn_bd hX.1 fo s (pN s) (pI s) (w := pW s) (fun e he => by have := (p5 e he).2.1; omega) j
  obtain ⟨mass', e1, h1⟩ := spreadPlan_ok (z := z) (by omega) hX hP hs wall wmass
  obtain ⟨shares', e2, h2⟩ := laysShares0_ok (z := z) (by omega) hM hP hs fives shares alls
  have hg9 : ∀ j, j < ns K (fo (1 - s)) → F6_gainFor z (i3 s) (codes (1 - s) j) mass' fields ties worth = some (i3 (pgn K W t fo s (pN s) (pI s) (pW s) j)) := fun j hj => plan_gain9 (by omega) hX hs h1 hj
  have hg10 : ∀ j, j < ns K (fo (1 - s)) → F10_gainBy z (i3 s) (i3 j) manym gains shares' = some (i3 (24 * pgn K W t fo s (pN s) (pI s) (pW s) j)) := fun j hj => by
    rw [gainBy_ok (by omega) hM hs hj (fun i hi => h2 i (by omega)), shares_gain fo s (pN s) (ns K (fo s)) (pW s) (fun e he => (p5 e he).1)]
  have ea : amn (fun j => 24 * pgn K W t fo s (pN s) (pI s) (pW s) j) (ns K (fo (1 - s))) = amn (pgn K W t fo s (pN s) (pI s) (pW s)) (ns K (fo (1 - s))) := amn_eq _ (fun i j _ _ => by omega)
  have hr := replyTo_ok (z := z) (by omega) hM hs (shares := shares') (g := fun j => 24 * pgn K W t fo s (pN s) (pI s) (pW s) j) (fun j _ => by have := gb j; omega) hg10
  rw [ea] at hr
  exact ⟨mass', shares', e1, replyToSpread_ok (by omega) hX hs (fun j _ => by have := gb j; omega) hg9, leastOfSpread_ok (by omega) hX hs (fun j _ => by have := gb j; omega) hg9, e2, hr, hg10 _ (amn_lt _ _ (by omega))⟩
theorem call_reply {z K : Nat} (hz : 1000 ≤ z) {W : Nat → Int} {t : Int} {fo : Nat → Nat} {fields ties : Int32} {worth forces many : Nat → Int32} {codes : Nat → Nat → Int32} (hX : SX K W t fo fields ties worth forces many codes) {told manym eights gains : Nat → Int32} (hM : SM K W t fo told manym eights gains) {pN : Nat → Nat} {pI : Nat → Nat → Nat} {pW : Nat → Nat → Int} {pList pWei : Nat → Nat → Int32} {pMany pAll : Nat → Int32} (hP : PLr K fo pN pI pW pList pWei pMany pAll told) (x1 thrown wall : Int32) (wmass : Nat → Nat → Int32) (fives shares : Nat → Int32) (alls : Int32) : ∃ v wall' wmass' shares' alls', F9_reply z x1 fields ties worth many codes pList pWei pMany wall wmass = some (v, wall', wmass') ∧ F10_reply z x1 thrown told manym eights gains fives shares alls = some (v, 0, shares', alls') := by
  unfold F9_reply F10_reply
  rcases hasPlan_ok hP x1 with ⟨s, hs, rfl, g1, e9, e10⟩ | ⟨e9, e10⟩
  · obtain ⟨mass', shares', a1, a2, a3, a4, a5, a6⟩ := holds_ok hz hX hM hP hs wall wmass fives shares alls
    rw [e9, e10]
    simp only [Option.bind_some]
    rw [if_neg n10, if_neg n10, a1, a4]
    simp only [Option.bind_some]
    rw [a2, a5]
    exact ⟨_, _, _, _, _, rfl, rfl⟩
  · rw [e9, e10]
    exact ⟨_, _, _, _, _, rfl, rfl⟩
/-- the reference's hold -/
theorem holdBy_ok {z K : Nat} (hz : 1000 ≤ z) {W : Nat → Int} {t : Int} {fo : Nat → Nat} {fields ties : Int32} {worth forces many : Nat → Int32} {codes : Nat → Nat → Int32} (hX : SX K W t fo fields ties worth forces many codes) {told manym eights gains : Nat → Int32} (hM : SM K W t fo told manym eights gains) {pN : Nat → Nat} {pI : Nat → Nat → Nat} {pW : Nat → Nat → Int} {pList pWei : Nat → Nat → Int32} {pMany pAll : Nat → Int32} (hP : PLr K fo pN pI pW pList pWei pMany pAll told) {s : Nat} (hs : s < 2) (h1 : 1 ≤ pN s) {b : Int} (hb : b = 0 ∨ b = 1) (fives shares : Nat → Int32) (alls : Int32) : ∃ shares' alls', F10_holdBy z (i3 s) 0 (i3 b) told manym eights gains fives shares alls = some (i3 (lowt (pgn K W t fo s (pN s) (pI s) (pW s) (amn (pgn K W t fo s (pN s) (pI s) (pW s)) (ns K (fo (1 - s))))) (sm (pN s) (pW s)) b), shares', alls') := by
  obtain ⟨mass', shares', a1, a2, a3, a4, a5, a6⟩ := holds_ok hz hX hM hP hs 0 (fun _ _ => 0) fives shares alls
  obtain ⟨p1, p2, p3, p4, p5, p6⟩ := hP s hs
  have wb := wsum_bd hP hs (pN s) (Nat.le_refl _)
  have gb := fun j => pgn_bd hX.1 fo s (pN s) (pI s) (w := pW s) (fun e he => by have := (p5 e he).2.1; omega) j
  have hwi := within10' (a := b) (by omega) (by omega) (l := 0) (h := 1) (by omega) (by omega) (by omega) (by omega) (L := 0) (H := 1) rfl rfl
  have e10 : F10_hasPlan (i3 s) told = some 1 := by
    rcases hasPlan_ok hP (i3 s) with ⟨s', hs', e, g1, e9, e10⟩ | ⟨e9, e10⟩
    · exact e10
    · exfalso
      unfold F10_hasPlan at e10
      rw [isSide10 s (by omega) (by omega), if_pos (by omega)] at e10
      simp only [Option.bind_some] at e10
      rw [if_neg n10, F10_planned_ok hP hs] at e10
      simp only [Option.bind_some] at e10
      rw [if_neg (by rw [i3_l0, i3_le (by omega) (by omega) (by omega) (by omega)]; omega)] at e10
      exact absurd e10 (by decide)
  have g0 := gb (amn (pgn K W t fo s (pN s) (pI s) (pW s)) (ns K (fo (1 - s))))
  refine ⟨shares', i3 (24 * sm (pN s) (pW s)), ?_⟩
  unfold F10_holdBy
  rw [e10, hwi.1 (by omega)]
  simp only [Option.bind_some]
  rw [if_neg n10, if_neg n10, a4]
  simp only [Option.bind_some]
  rw [a5]
  simp only [Option.bind_some]
  rw [a6]
  simp only [Option.bind_some]
  rw [i3_toI6 (by omega) (by omega), i3_toI6 (by omega) (by omega), F10_term_ok (by omega) (by omega) (by omega) (by omega) (by omega) hb, lowt_eq (A' := pgn K W t fo s (pN s) (pI s) (pW s) (amn (pgn K W t fo s (pN s) (pI s) (pW s)) (ns K (fo (1 - s))))) (B' := sm (pN s) (pW s)) (by omega) (by omega) (by rw [Int.mul_assoc, Int.mul_left_comm])]
  rfl
theorem call_hold {z K : Nat} (hz : 1000 ≤ z) {W : Nat → Int} {t : Int} {fo : Nat → Nat} {fields ties : Int32} {worth forces many : Nat → Int32} {codes : Nat → Nat → Int32} (hX : SX K W t fo fields ties worth forces many codes) {told manym eights gains : Nat → Int32} (hM : SM K W t fo told manym eights gains) {pN : Nat → Nat} {pI : Nat → Nat → Nat} {pW : Nat → Nat → Int} {pList pWei : Nat → Nat → Int32} {pMany pAll : Nat → Int32} (hP : PLr K fo pN pI pW pList pWei pMany pAll told) (x1 x2 thrown wall : Int32) (wmass : Nat → Nat → Int32) (fives shares : Nat → Int32) (alls : Int32) : ∃ v wall' wmass' shares' alls', F9_hold z x1 x2 fields ties worth many codes pList pWei pMany wall wmass = some (v, wall', wmass') ∧ F10_hold z x1 x2 thrown told manym eights gains fives shares alls = some (v, 0, shares', alls') := by
  obtain ⟨b, rfl, h3, h4⟩ := i3_ex x2
  have hwi := within10' h3 h4 (l := 0) (h := 1) (by omega) (by omega) (by omega) (by omega) (L := 0) (H := 1) rfl rfl
  unfold F9_hold F10_hold
  rcases hasPlan_ok hP x1 with ⟨s, hs, rfl, g1, e9, e10⟩ | ⟨e9, e10⟩
  · rw [e9, isPart9 b h3 h4]
    simp only [Option.bind_some]
    rw [if_neg n10]
    by_cases qb : b = 0 ∨ b = 1
    · obtain ⟨mass', shares', a1, a2, a3, a4, a5, a6⟩ := holds_ok hz hX hM hP hs wall wmass fives shares alls
      obtain ⟨sh2, al2, f10⟩ := holdBy_ok hz hX hM hP hs g1 qb fives shares alls
      obtain ⟨p1, p2, p3, p4, p5, p6⟩ := hP s hs
      have wb := wsum_bd hP hs (pN s) (Nat.le_refl _)
      have g0 := pgn_bd hX.1 fo s (pN s) (pI s) (w := pW s) (fun e he => by have := (p5 e he).2.1; omega) (amn (pgn K W t fo s (pN s) (pI s) (pW s)) (ns K (fo (1 - s))))
      rw [if_pos qb, if_neg n10, a1, f10]
      simp only [Option.bind_some]
      rw [a3]
      simp only [Option.bind_some]
      rw [i3_toI6 (by omega) (by omega), i3_toI6 (by omega) (by omega), F9_lowest_ok (by omega) (by omega) (by omega) (by omega) (by omega) qb]
      exact ⟨_, _, _, _, _, rfl, rfl⟩
    · rw [if_neg qb]
      simp only [if_true]
      unfold F10_holdBy
      rw [e10, hwi.2 (by omega)]
      exact ⟨_, _, _, _, _, rfl, rfl⟩
  · rw [e9]
    unfold F10_holdBy
    rw [e10]
    exact ⟨_, _, _, _, _, rfl, rfl⟩
