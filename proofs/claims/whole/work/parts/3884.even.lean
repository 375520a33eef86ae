/-! ===== evenHold, evenShare ===== -/
theorem laysShares1_ok {z K : Nat} (hz : 200 ≤ z) {W : Nat → Int} {t : Int} {fo : Nat → Nat} {told many eights gains : Nat → Int32} (hM : SM K W t fo told many eights gains) {fives : Nat → Int32} (hF : FVr fives) {pN : Nat → Nat} {pI : Nat → Nat → Nat} {pW : Nat → Nat → Int} {pList pWei : Nat → Nat → Int32} {pMany pAll : Nat → Int32} (hP : PLr K fo pN pI pW pList pWei pMany pAll told) {s : Nat} (hs : s < 2) (shares : Nat → Int32) (allShares : Int32) : ∃ shares', F10_laysShares z (i3 s) 1 told many eights fives shares allShares = some (shares', i3 (24 * sm (pN s) (pW s))) ∧ ∀ i, i < ns K (fo s) → shares' i = i3 (evs K W (fo s) (pI s) (pW s) (pN s) i) := by
  obtain ⟨p1, p2, p3, p4, p5, p6⟩ := hP s hs
  have hV := hM.1
  have hf := hM.2.1 s hs
  have n0 := ns_bd hV hf
  have hm := hM.2.2.2.2.2.2.1 s hs
  have clr : ∀ (rem w m : Nat) (shares : Nat → Int32), m + rem = 128 → rem < w → (∀ i, i < m → shares i = 0) → ∃ shares', F10_laysShares_b2 z w (i3 s) 1 (i3 m) told many eights fives shares allShares = F10_laysShares_b22 z (i3 s) 1 told many eights fives shares' allShares ∧ ∀ i, i < 128 → shares' i = 0 := by
    intro rem
    induction rem with
    | zero =>
      intro w m shares hm hw h
      obtain ⟨w, rfl⟩ : ∃ w', w = w' + 1 := ⟨w - 1, by omega⟩
      refine ⟨shares, ?_, fun i hi => h i (by omega)⟩
      unfold F10_laysShares_b2
      rw [if_pos (by rw [i3_l128, i3_le (by omega) (by omega) (by omega) (by omega)]; omega)]
    | succ rem ih =>
      intro w m shares hm hw h
      obtain ⟨w, rfl⟩ : ∃ w', w = w' + 1 := ⟨w - 1, by omega⟩
      unfold F10_laysShares_b2
      rw [if_neg (by rw [i3_l128, i3_le (by omega) (by omega) (by omega) (by omega)]; omega)]
      simp (disch := omega) only [xg_in, i3_xnN]
      rw [show i3 (m : Int) + 1 = i3 ((m + 1 : Nat) : Int) from by rw [i3_l1, i3_add]; rfl]
      refine ih w (m + 1) _ (by omega) (by omega) (fun i hi => ?_)
      by_cases e : i = m
      · subst e; exact upd_same _ _ _
      · rw [upd_diff _ _ e]; exact h i (by omega)
  have inner : ∀ (e : Nat), e < pN s → ∀ (al : Int32) (k36 : Int32 → Int32 → Int32 → (Nat → Int32) → (Nat → Int32) → (Nat → Int32) → (Nat → Int32) → (Nat → Int32) → Int32 → Option ((Nat → Int32) × Int32)) (rem w i : Nat) (shares : Nat → Int32), i + rem = ns K (fo s) → rem < w → ∃ shares', F10_laysShares_b69 z w (i3 s) 1 (i3 e) (i3 (pI s e : Nat)) (i3 (shN K W (fo s) (pI s e) : Nat)) (i3 i) told many eights fives shares al k36 = k36 (i3 s) 1 (i3 (e + 1 : Nat)) told many eights fives shares' al ∧ ∀ j, j < ns K (fo s) → shares' j = shares j + (if i ≤ j ∧ li K W (fo s) (pI s e) = li K W (fo s) j then i3 (pW s e * hN K W (fo s) (pI s e)) else 0) := by
    intro e he al k36 rem
    obtain ⟨d1, d2, d3, d4, d5, -⟩ := p5 e he
    have sp := shN_pos (W := W) d1
    have hh := hN_ok hV.1 hV.2.1 hf (W := W) d1
    induction rem with
    | zero =>
      intro w i shares hi hw
      obtain ⟨w, rfl⟩ : ∃ w', w = w' + 1 := ⟨w - 1, by omega⟩
      refine ⟨shares, ?_, fun j hj => by rw [if_neg (fun h => by omega), i3_l0, ← i3_of (shares j), i3_add, Int.add_zero]⟩
      unfold F10_laysShares_b69
      simp (disch := omega) only [xg_in, i3_xnN]
      rw [hm, if_pos (by rw [i3_le (by omega) (by omega) (by omega) (by omega)]; omega)]
      unfold F10_laysShares_b146
      rw [show i3 (e : Int) + 1 = i3 ((e + 1 : Nat) : Int) from by rw [i3_l1, i3_add]; rfl]
    | succ rem ih =>
      intro w i shares hi hw
      obtain ⟨w, rfl⟩ : ∃ w', w = w' + 1 := ⟨w - 1, by omega⟩
      have hi' : i < ns K (fo s) := by omega
      unfold F10_laysShares_b69
      simp (disch := omega) only [xg_in, i3_xnN]
      rw [hm, if_neg (show ¬ i3 (ns K (fo s) : Nat) ≤ i3 (i : Int) by rw [i3_le (by omega) (by omega) (by omega) (by omega)]; omega), areLike_ok (by omega) hM hF hs d1 hi', lkb_li hV.1 hV.2.1 hf d1 hi']
      simp only [Option.bind_some]
      unfold F10_laysShares_b116
      simp (disch := omega) only [xg_in, i3_xnN]
      rw [show i3 (i : Int) + 1 = i3 ((i + 1 : Nat) : Int) from by rw [i3_l1, i3_add]; rfl]
      by_cases q : li K W (fo s) (pI s e) = li K W (fo s) i
      · rw [decide_eq_true q, if_pos (show true = true from rfl), if_neg n10, F10_weightAt_ok hP hs he]
        simp only [Option.bind_some]
        rw [xnz_i3 _ (by omega) (by omega) (by omega), i3_l24, i3_mul, i3_div (by omega) (by omega) (by omega) (by omega)]
        rw [show (24 * pW s e).tdiv (shN K W (fo s) (pI s e) : Int) = pW s e * hN K W (fo s) (pI s e) from by
          rw [← hh, show (shN K W (fo s) (pI s e) : Int) * hN K W (fo s) (pI s e) * pW s e = (pW s e * hN K W (fo s) (pI s e)) * (shN K W (fo s) (pI s e) : Int) from by rw [Int.mul_comm, Int.mul_comm (shN K W (fo s) (pI s e) : Int), Int.mul_assoc], Int.mul_tdiv_cancel _ (by omega)]]
        obtain ⟨sh', e1, g1⟩ := ih w (i + 1) (upd shares i (shares i + i3 (pW s e * hN K W (fo s) (pI s e)))) (by omega) (by omega)
        refine ⟨sh', e1, fun j hj => ?_⟩
        rw [g1 j hj]
        by_cases c : j = i
        · subst c
          rw [upd_same, if_neg (fun h => by omega), if_pos ⟨Nat.le_refl _, q⟩, i3_l0]
          rw [← i3_of (shares j), i3_add, i3_add, Int.add_zero]
        · rw [upd_diff _ _ c]
          by_cases c2 : i + 1 ≤ j ∧ li K W (fo s) (pI s e) = li K W (fo s) j
          · rw [if_pos c2, if_pos ⟨by omega, c2.2⟩]
          · rw [if_neg c2, if_neg (fun h => c2 ⟨by omega, h.2⟩)]
      · rw [decide_eq_false q, if_neg (show ¬ false = true by decide), if_pos rfl]
        obtain ⟨sh', e1, g1⟩ := ih w (i + 1) (upd shares i (shares i + 0)) (by omega) (by omega)
        refine ⟨sh', e1, fun j hj => ?_⟩
        rw [g1 j hj]
        by_cases c : j = i
        · subst c
          rw [upd_same, if_neg (fun h => by omega), if_neg (fun h => q h.2), i3_l0]
          rw [← i3_of (shares j), i3_add, i3_add, Int.add_zero]
        · rw [upd_diff _ _ c]
          by_cases c2 : i + 1 ≤ j ∧ li K W (fo s) (pI s e) = li K W (fo s) j
          · rw [if_pos c2, if_pos ⟨by omega, c2.2⟩]
          · rw [if_neg c2, if_neg (fun h => c2 ⟨by omega, h.2⟩)]
  have loop : ∀ (rem w e : Nat) (shares : Nat → Int32) (al : Int32), e + rem = pN s → rem < w → (∀ i, i < ns K (fo s) → shares i = i3 (evs K W (fo s) (pI s) (pW s) e i)) → ∃ shares', F10_laysShares_b36 z w (i3 s) 1 (i3 e) told many eights fives shares al = some (shares', al) ∧ ∀ i, i < ns K (fo s) → shares' i = i3 (evs K W (fo s) (pI s) (pW s) (pN s) i) := by
    intro rem
    induction rem with
    | zero =>
      intro w e shares al he hw h
      obtain ⟨w, rfl⟩ : ∃ w', w = w' + 1 := ⟨w - 1, by omega⟩
      obtain rfl : e = pN s := by omega
      refine ⟨shares, ?_, h⟩
      unfold F10_laysShares_b36
      rw [F10_planned_ok hP hs]
      simp only [Option.bind_some]
      rw [if_pos (by rw [i3_le (by omega) (by omega) (by omega) (by omega)]; omega)]
    | succ rem ih =>
      intro w e shares al he hw h
      obtain ⟨w, rfl⟩ : ∃ w', w = w' + 1 := ⟨w - 1, by omega⟩
      obtain ⟨d1, d2, d3, d4, d5, -⟩ := p5 e (by omega)
      unfold F10_laysShares_b36
      rw [F10_planned_ok hP hs]
      simp only [Option.bind_some]
      rw [if_neg (by rw [i3_le (by omega) (by omega) (by omega) (by omega)]; omega), F10_planAt_ok hz hM hP hs (by omega)]
      simp only [Option.bind_some]
      rw [if_neg n10, alike_ok hz hM hF hs d1]
      simp only [Option.bind_some]
      obtain ⟨sh1, e1, g1⟩ := inner e (by omega) al (fun q0 q1 q2 q3 q4 q5 q6 q7 q8 => F10_laysShares_b36 z w q0 q1 q2 q3 q4 q5 q6 q7 q8) (ns K (fo s)) z 0 shares (by omega) (by omega)
      obtain ⟨sh2, e2, g2⟩ := ih w (e + 1) sh1 al (by omega) (by omega) (fun i hi => by
        rw [g1 i hi, h i hi]
        show _ = i3 (evs K W (fo s) (pI s) (pW s) e i + (if li K W (fo s) (pI s e) = li K W (fo s) i then pW s e * hN K W (fo s) (pI s e) else 0))
        by_cases q : li K W (fo s) (pI s e) = li K W (fo s) i
        · rw [if_pos ⟨Nat.zero_le _, q⟩, if_pos q, i3_add]
        · rw [if_neg (fun h => q h.2), if_neg q, i3_l0, i3_add])
      exact ⟨sh2, e1.trans e2, g2⟩
  obtain ⟨s1, e1, h1⟩ := clr 128 z 0 shares (by omega) (by omega) (fun i hi => absurd hi (Nat.not_lt_zero i))
  obtain ⟨s2, e2, h2⟩ := loop (pN s) z 0 s1 (i3 (24 * sm (pN s) (pW s))) (by omega) (by omega) (fun i hi => h1 i (by omega))
  refine ⟨s2, ?_, h2⟩
  unfold F10_laysShares
  refine Eq.trans e1 ?_
  unfold F10_laysShares_b22
  rw [F10_weights_ok (by omega) hP hs]
  simp only [Option.bind_some]
  rw [i3_l24, i3_mul]
  exact e2
theorem mss_bd {K : Nat} {c : Nat → Nat} {w : Nat → Int} {n : Nat} (hw : ∀ e, e < n → 0 ≤ w e ∧ w e ≤ 99) (hn : n ≤ 8) (k v : Nat) : 0 ≤ mss K c w n k v ∧ mss K c w n k v ≤ 100000 := by
  have h := sm_bdB (B := 99) (n := n) (f := fun e => if dg K (c e) k = v then w e else 0) (fun e he => by
    have := hw e he
    show 0 ≤ (if dg K (c e) k = v then w e else 0) ∧ (if dg K (c e) k = v then w e else 0) ≤ 99
    split <;> omega)
  unfold mss
  omega
/-- what the class's levelled plan gains -/
def g9e (K : Nat) (W : Nat → Int) (t : Int) (fo : Nat → Nat) (s n : Nat) (f : Nat → Nat) (w : Nat → Int) (j : Nat) : Int := sm K (fun k => W k * sm 8 (fun v => lvl K W (mss K (fun e => cd K (fo s) (f e)) w n) k v * wsd t s v (dg K (cd K (fo (1 - s)) j) k)))
theorem g9e_two {K : Nat} {W : Nat → Int} {t : Int} (hV : Vd K W t) {fo : Nat → Nat} {s n : Nat} (hs : s < 2) (hf : fo s ≤ 7) {f : Nat → Nat} {w : Nat → Int} (hp : ∀ e, e < n → f e < ns K (fo s)) (j : Nat) : sm (ns K (fo s)) (fun i => evs K W (fo s) f w n i * gsd K W t fo s i j) = 2 * g9e K W t fo s n f w j := by
  have h := mss_gain K W t s (cd K (fo s)) (evs K W (fo s) f w n) (ns K (fo s)) (cd K (fo (1 - s)) j)
  have h2 : sm (ns K (fo s)) (fun i => evs K W (fo s) f w n i * gsd K W t fo s i j) = sm (ns K (fo s)) (fun e => evs K W (fo s) f w n e * sgd K W t s (cd K (fo s) e) (cd K (fo (1 - s)) j)) := sm_congr (fun i _ => by rw [sgd_gsd hs])
  rw [h2, ← h]
  unfold g9e
  rw [← sm_mul]
  refine sm_congr (fun k hk => ?_)
  rw [Int.mul_left_comm 2 (W k)]
  congr 1
  rw [← sm_mul]
  refine sm_congr (fun v _ => ?_)
  rw [evs_mass hV.1 hV.2.1 hf hp hk, Int.mul_assoc]
theorem evs_nn {K f n : Nat} {W : Nat → Int} {pI : Nat → Nat} {w : Nat → Int} (hw : ∀ e, e < n → 0 ≤ w e) (i : Nat) : 0 ≤ evs K W f pI w n i := by
  refine sm_nonneg (fun e he => ?_)
  show 0 ≤ (if li K W f (pI e) = li K W f i then w e * hN K W f (pI e) else 0)
  split
  · exact Int.mul_nonneg (hw e he) (Int.natCast_nonneg _)
  · exact Int.le_refl _
theorem call_evenHold {z K : Nat} (hz : 1000 ≤ z) {W : Nat → Int} {t : Int} {fo : Nat → Nat} {fields ties : Int32} {worth forces many : Nat → Int32} {codes : Nat → Nat → Int32} (hX : SX K W t fo fields ties worth forces many codes) {told manym eights gains : Nat → Int32} (hM : SM K W t fo told manym eights gains) {fives : Nat → Int32} (hF : FVr fives) {pN : Nat → Nat} {pI : Nat → Nat → Nat} {pW : Nat → Nat → Int} {pList pWei : Nat → Nat → Int32} {pMany pAll : Nat → Int32} (hP : PLr K fo pN pI pW pList pWei pMany pAll told) (x1 x2 thrown wall : Int32) (wmass : Nat → Nat → Int32) (shares : Nat → Int32) (alls : Int32) : ∃ v wall' wmass' shares' alls', F9_evenHold z x1 x2 fields ties worth many codes pList pWei pMany wall wmass = some (v, wall', wmass') ∧ F10_evenHold z x1 x2 thrown told manym eights gains fives shares alls = some (v, 0, shares', alls') := by
  obtain ⟨b, rfl, h3, h4⟩ := i3_ex x2
  have hwi := within10' h3 h4 (l := 0) (h := 1) (by omega) (by omega) (by omega) (by omega) (L := 0) (H := 1) rfl rfl
  unfold F9_evenHold F10_evenHold F10_holdBy
  rcases hasPlan_ok hP x1 with ⟨s, hs, rfl, g1, e9, e10⟩ | ⟨e9, e10⟩
  · rw [e9, e10, isPart9 b h3 h4]
    simp only [Option.bind_some]
    rw [if_neg n10, if_neg n10]
    by_cases qb : b = 0 ∨ b = 1
    · obtain ⟨p1, p2, p3, p4, p5, p6⟩ := hP s hs
      have hV := hX.1
      have hf := hX.2.1 s hs
      have n1 := ns_bd hV (hX.2.1 (1 - s) (by omega))
      have wb := wsum_bd hP hs (pN s) (Nat.le_refl _)
      obtain ⟨m1, f1, hm1⟩ := spreadPlan_ok (z := z) (by omega) hX hP hs wall wmass
      obtain ⟨m2, f2, hm2⟩ := levelOut_ok (z := z) (by omega) hV hX.2.2.2.2.1 (fun k v _ _ => mss_bd (fun e he => by have := p5 e he; omega) p1 k v) hm1 (sm (pN s) (pW s))
      obtain ⟨sh2, f3, hs3⟩ := laysShares1_ok (z := z) (by omega) hM hF hP hs shares alls
      have hp : ∀ e, e < pN s → pI s e < ns K (fo s) := fun e he => (p5 e he).1
      have two := g9e_two hV hs hf (w := pW s) hp
      have bd : ∀ j, -1000000 ≤ g9e K W t fo s (pN s) (pI s) (pW s) j ∧ g9e K W t fo s (pN s) (pI s) (pW s) j ≤ 1000000 := fun j => by
        have h1 := pgn_bd hV fo s (ns K (fo s)) (fun i => i) (w := evs K W (fo s) (pI s) (pW s) (pN s)) (fun i _ => evs_nn (fun e he => by have := (p5 e he).2.1; omega) i) j
        have h2 : pgn K W t fo s (ns K (fo s)) (fun i => i) (evs K W (fo s) (pI s) (pW s) (pN s)) j = 2 * g9e K W t fo s (pN s) (pI s) (pW s) j := two j
        rw [evs_sum hV.1 hV.2.1 hf hp, h2] at h1
        omega
      have hg9 : ∀ j, j < ns K (fo (1 - s)) → F6_gainFor z (i3 s) (codes (1 - s) j) m2 fields ties worth = some (i3 (g9e K W t fo s (pN s) (pI s) (pW s) j)) := fun j hj => by
        rw [hX.2.2.2.2.2.2.2 _ _ (by omega) hj, hX.2.2.1, hX.2.2.2.1, F6_gainFor_ok (by omega) hV (cd_lt hV.2.1 hj) hs hX.2.2.2.2.1 hm2]
        rfl
      have hg10 : ∀ j, j < ns K (fo (1 - s)) → F10_gainBy z (i3 s) (i3 j) manym gains sh2 = some (i3 (2 * g9e K W t fo s (pN s) (pI s) (pW s) j)) := fun j hj => by
        rw [gainBy_ok (by omega) hM hs hj hs3, two j]
      have ea : amn (fun j => 2 * g9e K W t fo s (pN s) (pI s) (pW s) j) (ns K (fo (1 - s))) = amn (g9e K W t fo s (pN s) (pI s) (pW s)) (ns K (fo (1 - s))) := amn_eq _ (fun i j _ _ => by omega)
      have hr := replyTo_ok (z := z) (by omega) hM hs (shares := sh2) (g := fun j => 2 * g9e K W t fo s (pN s) (pI s) (pW s) j) (fun j _ => by have := bd j; omega) hg10
      rw [ea] at hr
      have hl := leastOfSpread_ok (z := z) (by omega) hX hs (fun j _ => bd j) hg9
      have g0 := bd (amn (g9e K W t fo s (pN s) (pI s) (pW s)) (ns K (fo (1 - s))))
      rw [if_pos qb, if_neg n10, hwi.1 (by omega), f1]
      simp only [Option.bind_some]
      rw [if_neg n10, hX.2.2.1, f2, f3]
      simp only [Option.bind_some]
      rw [← hX.2.2.1, hl, hr]
      simp only [Option.bind_some]
      rw [hg10 _ (amn_lt _ _ (by omega))]
      simp only [Option.bind_some]
      rw [i3_toI6 (by omega) (by omega), i3_toI6 (by omega) (by omega), i3_toI6 (by omega) (by omega), i3_toI6 (by omega) (by omega), F9_lowest_ok (by omega) (by omega) (by omega) (by omega) (by omega) qb, F10_term_ok (by omega) (by omega) (by omega) (by omega) (by omega) qb, lowt_eq (A := 2 * g9e K W t fo s (pN s) (pI s) (pW s) (amn (g9e K W t fo s (pN s) (pI s) (pW s)) (ns K (fo (1 - s))))) (B := 24 * sm (pN s) (pW s)) (A' := g9e K W t fo s (pN s) (pI s) (pW s) (amn (g9e K W t fo s (pN s) (pI s) (pW s)) (ns K (fo (1 - s))))) (B' := sm (pN s) (pW s) * 12) (by omega) (by omega) (by
        rw [Int.mul_comm (sm (pN s) (pW s)) 12, Int.mul_comm 2, Int.mul_assoc, ← Int.mul_assoc 2 12]
        rfl)]
      exact ⟨_, _, _, _, _, rfl, rfl⟩
    · rw [if_neg qb, hwi.2 (by omega)]
      exact ⟨_, _, _, _, _, rfl, rfl⟩
  · rw [e9, e10]
    exact ⟨_, _, _, _, _, rfl, rfl⟩
theorem call_evenShare {z K : Nat} (hz : 1000 ≤ z) {W : Nat → Int} {t : Int} {fo : Nat → Nat} {fields ties : Int32} {worth forces many : Nat → Int32} {codes : Nat → Nat → Int32} (hX : SX K W t fo fields ties worth forces many codes) {told manym eights gains : Nat → Int32} (hM : SM K W t fo told manym eights gains) {fives : Nat → Int32} (hF : FVr fives) {pN : Nat → Nat} {pI : Nat → Nat → Nat} {pW : Nat → Nat → Int} {pList pWei : Nat → Nat → Int32} {pMany pAll : Nat → Int32} (hP : PLr K fo pN pI pW pList pWei pMany pAll told) (x1 x2 x3 thrown : Int32) (shares : Nat → Int32) (alls : Int32) : ∃ v shares' alls', F9_evenShare z x1 x2 x3 fields worth many codes pList pWei pMany pAll = some v ∧ F10_evenShare z x1 x2 x3 thrown told manym eights fives shares alls = some (v, 0, shares', alls') := by
  obtain ⟨a, rfl, h1, h2⟩ := i3_ex x1
  obtain ⟨i', rfl, h3, h4⟩ := i3_ex x2
  obtain ⟨b, rfl, h5, h6⟩ := i3_ex x3
  have hwi := within10' h5 h6 (l := 0) (h := 1) (by omega) (by omega) (by omega) (by omega) (L := 0) (H := 1) rfl rfl
  unfold F9_evenShare F10_evenShare
  by_cases e1 : isp K fo a i'
  · obtain ⟨s, i, rfl, rfl, hs, hi⟩ := e1
    have hV := hX.1
    have hf := hX.2.1 s hs
    have n0 := ns_bd hV hf
    rw [isSplit4_yes hX hs hi, isSplit10_yes hM hs hi]
    simp only [Option.bind_some]
    rw [if_neg n10, if_neg n10]
    rcases hasPlan_ok hP (i3 s) with ⟨s', hs', es, g1, e9, e10⟩ | ⟨e9, e10⟩
    · obtain rfl : s = s' := by
        have := (i3_eq (a := (s : Int)) (b := (s' : Int)) (by omega) (by omega) (by omega) (by omega)).mp es
        omega
      rw [e9, e10, isPart9 b h5 h6]
      simp only [Option.bind_some]
      rw [if_neg n10, if_neg n10]
      by_cases qb : b = 0 ∨ b = 1
      · obtain ⟨p1, p2, p3, p4, p5, p6⟩ := hP s hs
        have wb := wsum_bd hP hs (pN s) (Nat.le_refl _)
        obtain ⟨sh2, f3, hs3⟩ := laysShares1_ok (z := z) (by omega) hM hF hP hs shares alls
        have sp := shN_pos (W := W) hi
        have hh := hN_ok hV.1 hV.2.1 hf (W := W) hi
        have ub : ∀ e, e ≤ pN s → 0 ≤ sm e (fun e => if li K W (fo s) (pI s e) = li K W (fo s) i then pW s e else 0) ∧ sm e (fun e => if li K W (fo s) (pI s e) = li K W (fo s) i then pW s e else 0) ≤ 99 * (e : Int) := fun e he => sm_bdB (fun k hk => by
          have := p5 k (by omega)
          show 0 ≤ (if li K W (fo s) (pI s k) = li K W (fo s) i then pW s k else 0) ∧ (if li K W (fo s) (pI s k) = li K W (fo s) i then pW s k else 0) ≤ 99
          split <;> omega)
        have ub0 := ub (pN s) (Nat.le_refl _)
        have ev : evs K W (fo s) (pI s) (pW s) (pN s) i = sm (pN s) (fun e => if li K W (fo s) (pI s e) = li K W (fo s) i then pW s e else 0) * hN K W (fo s) i := by
          unfold evs
          rw [Int.mul_comm, ← sm_mul]
          refine sm_congr (fun e _ => ?_)
          by_cases q : li K W (fo s) (pI s e) = li K W (fo s) i
          · rw [if_pos q, if_pos q, Int.mul_comm]
            unfold hN
            rw [shN_like q]
          · rw [if_neg q, if_neg q, Int.mul_zero]
        have hb1 : 1 ≤ hN K W (fo s) i ∧ hN K W (fo s) i ≤ 24 := by
          have h0 : 0 ≤ hN K W (fo s) i := Int.natCast_nonneg _
          have hle : hN K W (fo s) i ≤ 24 := by
            unfold hN
            have := Nat.div_le_self 24 (shN K W (fo s) i)
            omega
          refine ⟨?_, hle⟩
          rcases Int.lt_or_le 0 (hN K W (fo s) i) with q | q
          · omega
          · have : hN K W (fo s) i = 0 := by omega
            rw [this, Int.mul_zero] at hh
            omega
        have evb : 0 ≤ evs K W (fo s) (pI s) (pW s) (pN s) i ∧ evs K W (fo s) (pI s) (pW s) (pN s) i ≤ 1000000 := by
          have h0 := evs_nn (K := K) (f := fo s) (n := pN s) (W := W) (pI := pI s) (w := pW s) (fun e he => by have := (p5 e he).2.1; omega) i
          refine ⟨h0, ?_⟩
          have := sm_ge_one (n := ns K (fo s)) (r := i) (f := evs K W (fo s) (pI s) (pW s) (pN s)) hi (fun j _ => evs_nn (fun e he => by have := (p5 e he).2.1; omega) j)
          rw [evs_sum hV.1 hV.2.1 hf (fun e he => (p5 e he).1)] at this
          omega
        have prb : 0 < sm (pN s) (pW s) * (shN K W (fo s) i : Int) ∧ sm (pN s) (pW s) * (shN K W (fo s) i : Int) ≤ 1000000 := by
          constructor
          · exact Int.mul_pos (by omega) (by omega)
          · have := Int.mul_le_mul (a := sm (pN s) (pW s)) (b := (shN K W (fo s) i : Int)) (c := 792) (d := 120) (by omega) (by omega) (by omega) (by omega)
            omega
        have loop : ∀ (rem w e : Nat), e + rem = pN s → rem < w → F9_evenShare_b57 z w (i3 s) (i3 i) (i3 b) s (i3 (li K W (fo s) i : Nat)) (i3 (sm e (fun e => if li K W (fo s) (pI s e) = li K W (fo s) i then pW s e else 0))) (i3 e) fields worth many codes pList pWei pMany pAll = some (i3 (lowt (sm (pN s) (fun e => if li K W (fo s) (pI s e) = li K W (fo s) i then pW s e else 0)) (sm (pN s) (pW s) * (shN K W (fo s) i : Int)) b)) := by
          intro rem
          induction rem with
          | zero =>
            intro w e he hw
            obtain ⟨w, rfl⟩ : ∃ w', w = w' + 1 := ⟨w - 1, by omega⟩
            obtain rfl : e = pN s := by omega
            have lb : Nat.blt s 2 = true := by rw [Nat.blt_eq]; exact hs
            unfold F9_evenShare_b57 F9_evenShare_b107
            rw [lb, p2]
            show (if i3 (pN s : Nat) ≤ i3 (pN s : Nat) then xg true ((F4_shapeSize z (i3 s) (i3 i) fields worth many codes).bind _) else _) = _
            rw [if_pos (by rw [i3_le (by omega) (by omega) (by omega) (by omega)]; omega), shapeSize_ok (by omega) hX hs hi, p4]
            show (F9_lowest z (i3 _).toInt64 (i3 (sm (pN s) (pW s)) * i3 (shN K W (fo s) i : Nat)).toInt64 (i3 b)).bind _ = _
            rw [i3_mul, i3_toI6 (by omega) (by omega), i3_toI6 (by omega) (by omega), F9_lowest_ok (by omega) (by omega) (by omega) (by omega) (by omega) qb]
            rfl
          | succ rem ih =>
            intro w e he hw
            obtain ⟨w, rfl⟩ : ∃ w', w = w' + 1 := ⟨w - 1, by omega⟩
            obtain ⟨d1, d2, d3, d4, d5, -⟩ := p5 e (by omega)
            have lb : Nat.blt s 2 = true := by rw [Nat.blt_eq]; exact hs
            have l1 := li_ok hV.1 hV.2.1 hf (W := W) hi
            have l2 := li_ok hV.1 hV.2.1 hf (W := W) d1
            have ih' : F9_evenShare_b57 z w (i3 s) (i3 i) (i3 b) s (i3 (li K W (fo s) i : Nat)) (i3 (sm e (fun e => if li K W (fo s) (pI s e) = li K W (fo s) i then pW s e else 0) + (if li K W (fo s) (pI s e) = li K W (fo s) i then pW s e else 0))) (i3 (e + 1 : Nat)) fields worth many codes pList pWei pMany pAll = _ := ih w (e + 1) (by omega) (by omega)
            unfold F9_evenShare_b57 F9_evenShare_b101
            rw [lb, p2]
            simp (disch := omega) only [xg_in, i3_xnN]
            show (if i3 (pN s : Nat) ≤ i3 (e : Nat) then _ else _) = _
            rw [if_neg (show ¬ i3 (pN s : Nat) ≤ i3 (e : Nat) by rw [i3_le (by omega) (by omega) (by omega) (by omega)]; omega), d4, d5, shapeFirst_ok (by omega) hX hs d1]
            simp only [Option.bind_some]
            rw [show i3 (e : Int) + 1 = i3 ((e + 1 : Nat) : Int) from by rw [i3_l1, i3_add]; rfl]
            by_cases q : li K W (fo s) (pI s e) = li K W (fo s) i
            · rw [if_pos (show i3 (li K W (fo s) (pI s e) : Nat) = i3 (li K W (fo s) i : Nat) by rw [q]), i3_add]
              rw [if_pos q] at ih'
              exact ih'
            · rw [if_neg (show ¬ i3 (li K W (fo s) (pI s e) : Nat) = i3 (li K W (fo s) i : Nat) by rw [i3_eq (by omega) (by omega) (by omega) (by omega)]; omega)]
              rw [if_neg q, Int.add_zero] at ih'
              exact ih'
        have lp := loop (pN s) z 0 (by omega) (by omega)
        rw [if_pos qb, if_neg n10, hwi.1 (by omega), shapeFirst_ok (by omega) hX hs hi]
        simp (disch := omega) only [Option.bind_some, xg_in, i3_xnN]
        rw [if_neg n10, f3]
        simp only [Option.bind_some]
        rw [hs3 i hi, i3_toI6 (by omega) (by omega), i3_toI6 (by omega) (by omega), F10_term_ok (by omega) (by omega) (by omega) (by omega) (by omega) qb]
        refine ⟨_, sh2, i3 (24 * sm (pN s) (pW s)), lp, ?_⟩
        rw [lowt_eq (A := sm (pN s) (fun e => if li K W (fo s) (pI s e) = li K W (fo s) i then pW s e else 0)) (B := sm (pN s) (pW s) * (shN K W (fo s) i : Int)) (A' := evs K W (fo s) (pI s) (pW s) (pN s) i) (B' := 24 * sm (pN s) (pW s)) (by omega) (by omega) (by
          rw [ev, ← hh, Int.mul_assoc (sm (pN s) (fun e => if li K W (fo s) (pI s e) = li K W (fo s) i then pW s e else 0))]
          congr 1
          rw [Int.mul_comm (shN K W (fo s) i : Int), Int.mul_assoc, Int.mul_comm (shN K W (fo s) i : Int)])]
        rfl
      · rw [if_neg qb, hwi.2 (by omega)]
        exact ⟨_, _, _, rfl, rfl⟩
    · rw [e9, e10]
      exact ⟨_, _, _, rfl, rfl⟩
  · rw [isSplit4_no hX h1 h2 h3 h4 e1, isSplit10_no hM h1 h2 h3 h4 e1]
    exact ⟨_, _, _, rfl, rfl⟩
