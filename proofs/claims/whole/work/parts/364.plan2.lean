/-! ===== call: plan, second part ===== -/
def shf (f : Nat → Int32) (k m : Nat) : Nat → Int32 := fun j => if k ≤ j ∧ j < m then f (j + 1) else f j
def sht (f : Nat → Int32) (a b k m : Nat) : Nat → Int32 := fun j => if (a + k ≤ j ∧ j < a + m) ∨ (b + k ≤ j ∧ j < b + m) then f (j + 1) else f j
theorem shf_step (f : Nat → Int32) {k m : Nat} (h : k ≤ m) : upd (shf f k m) m (shf f k m (m + 1)) = shf f k (m + 1) := by
  funext j
  unfold upd shf
  by_cases q : j = m
  · rw [if_pos q, if_neg (by omega), if_pos (by omega), q]
  · rw [if_neg q]
    by_cases q2 : k ≤ j ∧ j < m
    · rw [if_pos q2, if_pos (by omega)]
    · rw [if_neg q2, if_neg (by omega)]
theorem shf_0 (f : Nat → Int32) (k : Nat) : shf f k k = f := by
  funext j
  unfold shf
  rw [if_neg (by omega)]
theorem sht_0 (f : Nat → Int32) (a b k : Nat) : sht f a b k k = f := by
  funext j
  unfold sht
  rw [if_neg (by omega)]
theorem sht_step (f : Nat → Int32) {a b k m : Nat} (h : k ≤ m) (hb : a + m + 1 < b) : upd (upd (sht f a b k m) (a + m) (sht f a b k m (a + m + 1))) (b + m) (upd (sht f a b k m) (a + m) (sht f a b k m (a + m + 1)) (b + m + 1)) = sht f a b k (m + 1) := by
  funext j
  unfold upd sht
  by_cases q : j = b + m
  · rw [if_pos q, if_neg (by omega), if_neg (by omega), if_pos (by omega), q]
  · rw [if_neg q]
    by_cases q3 : j = a + m
    · rw [if_pos q3, if_neg (by omega), if_pos (by omega), q3]
    · rw [if_neg q3]
      by_cases q2 : (a + k ≤ j ∧ j < a + m) ∨ (b + k ≤ j ∧ j < b + m)
      · rw [if_pos q2, if_pos (by omega)]
      · rw [if_neg q2, if_neg (by omega)]
theorem F3_drop_ok {z n k : Nat} (hz : 20 ≤ z) (hn : n + 1 ≤ 8) (hk : k ≤ n) (list weights : Nat → Int32) (all : Int32) : F3_drop z (i3 k) list weights (i3 (n + 1 : Nat)) all = some (shf list k n, shf weights k n, i3 (n : Nat), all - weights k) := by
  have loop : ∀ (rem w m : Nat) (all : Int32), m + rem = n → k ≤ m → rem < w → F3_drop_b27 z w (i3 m) (shf list k m) (shf weights k m) (i3 (n : Nat)) all = some (shf list k n, shf weights k n, i3 (n : Nat), all) := by
    intro rem
    induction rem with
    | zero =>
      intro w m all hm hkm hw
      obtain ⟨w, rfl⟩ : ∃ w', w = w' + 1 := ⟨w - 1, by omega⟩
      unfold F3_drop_b27
      rw [if_pos (by rw [i3_le (by omega) (by omega) (by omega) (by omega)]; omega), show m = n by omega]
    | succ rem ih =>
      intro w m all hm hkm hw
      obtain ⟨w, rfl⟩ : ∃ w', w = w' + 1 := ⟨w - 1, by omega⟩
      unfold F3_drop_b27
      rw [if_neg (by rw [i3_le (by omega) (by omega) (by omega) (by omega)]; omega), show i3 (m : Int) + 1 = i3 ((m + 1 : Nat) : Int) from by rw [i3_l1, i3_add]; rfl]
      simp (disch := omega) only [xg_in, i3_xnN]
      rw [shf_step _ hkm, shf_step _ hkm]
      exact ih w (m + 1) all (by omega) (by omega) (by omega)
  have h := loop (n - k) z k (all - weights k) (by omega) (by omega) (by omega)
  rw [shf_0, shf_0] at h
  unfold F3_drop
  simp (disch := omega) only [xg_in, i3_xnN]
  rw [show i3 ((n + 1 : Nat) : Int) - 1 = i3 (n : Int) from by rw [i3_l1, i3_sub]; congr 1; omega]
  exact h
theorem F10_drop_ok {z z0 n k s : Nat} (hz : 20 ≤ z) (hs : s < 2) (hn : n + 1 ≤ 8) (hk : k ≤ n) (thrown : Int32) (told many eights turns drawn : Nat → Int32) : F10_plan_b68 z0 z (i3 s) (i3 (n + 1 : Nat)) (i3 k) thrown told many eights turns drawn = F10_plan_b143 z0 (i3 s) thrown (sht told (8 + 24 * s + 8) (8 + 24 * s + 16) k n) many eights turns drawn := by
  have e8 : F10_at (i3 s) 8 = _ := F10_at_ok s 8
  have e16 : F10_at (i3 s) 16 = _ := F10_at_ok s 16
  have loop : ∀ (rem w m : Nat), m + rem = n → k ≤ m → rem < w → F10_plan_b68 z0 w (i3 s) (i3 (n + 1 : Nat)) (i3 m) thrown (sht told (8 + 24 * s + 8) (8 + 24 * s + 16) k m) many eights turns drawn = F10_plan_b143 z0 (i3 s) thrown (sht told (8 + 24 * s + 8) (8 + 24 * s + 16) k n) many eights turns drawn := by
    intro rem
    induction rem with
    | zero =>
      intro w m hm hkm hw
      obtain ⟨w, rfl⟩ : ∃ w', w = w' + 1 := ⟨w - 1, by omega⟩
      unfold F10_plan_b68
      rw [if_pos (by rw [i3_l1, i3_sub, i3_le (by omega) (by omega) (by omega) (by omega)]; omega), show m = n by omega]
    | succ rem ih =>
      intro w m hm hkm hw
      obtain ⟨w, rfl⟩ : ∃ w', w = w' + 1 := ⟨w - 1, by omega⟩
      unfold F10_plan_b68
      rw [if_neg (by rw [i3_l1, i3_sub, i3_le (by omega) (by omega) (by omega) (by omega)]; omega), e8, e16]
      simp only [Option.bind_some]
      rw [atN, atN, show i3 ((8 + 24 * s + 8 + m : Nat) : Int) + 1 = i3 ((8 + 24 * s + 8 + m + 1 : Nat) : Int) from by rw [i3_l1, i3_add]; rfl, show i3 ((8 + 24 * s + 16 + m : Nat) : Int) + 1 = i3 ((8 + 24 * s + 16 + m + 1 : Nat) : Int) from by rw [i3_l1, i3_add]; rfl, show i3 (m : Int) + 1 = i3 ((m + 1 : Nat) : Int) from by rw [i3_l1, i3_add]; rfl]
      simp (disch := omega) only [xg_in, i3_xnN]
      rw [sht_step _ hkm (by omega)]
      exact ih w (m + 1) (by omega) (by omega) (by omega)
  have h := loop (n - k) z k (by omega) (by omega) (by omega)
  rw [sht_0] at h
  exact h
theorem plan_fin {z K T : Nat} (hz : 20 ≤ z) {fo pN : Nat → Nat} {pI : Nat → Nat → Nat} {pW : Nat → Nat → Int} {pList pWei : Nat → Nat → Int32} {pMany pAll told : Nat → Int32} (hP : PLr K fo pN pI pW pList pWei pMany pAll told) {tu : Nat → Nat} {dr : Nat → Nat → Nat} {pTurns : Nat → Int32} {pDrawn : Nat → Nat → Int32} {turns drawn : Nat → Int32} (hT : TNr T tu dr pTurns pDrawn turns drawn) {s : Nat} (hs : s < 2) (thrown : Int32) (many manym eights : Nat → Int32) : ∃ (d d2 : Nat → Int32) (tu' : Nat → Nat) (dr' : Nat → Nat → Nat), F9_plan_b103 z s many pList pWei pDrawn pMany pAll pTurns = some (i3 (pN s : Nat), pList, pWei, va_up pDrawn s d, pMany, pAll, va_up pTurns s 0) ∧ F10_plan_b236 z (i3 s) thrown told manym eights turns drawn = some (i3 (pN s : Nat), thrown, told, upd turns s 0, d2) ∧ TNr T tu' dr' (va_up pTurns s 0) (va_up pDrawn s d) (upd turns s 0) d2 := by
  obtain ⟨d, e1, g1⟩ := F3_restart_ok (z := z) hz (pDrawn s) (pTurns s)
  obtain ⟨d2, e2, g2⟩ := F10_beginsTurns_ok (z := z) hz hs turns drawn
  refine ⟨d, d2, _, _, ?_, ?_, TNr_put hT hs g1 g2⟩
  · unfold F9_plan_b103
    rw [e1, (hP s hs).2.1]
    rcases two_cases hs with rfl | rfl <;> rfl
  · unfold F10_plan_b236
    rw [e2, F10_planned_ok hP hs]
    rfl
theorem call_plan {z K T : Nat} (hz : 1000 ≤ z) {W : Nat → Int} {t : Int} {fo : Nat → Nat} {fields ties : Int32} {worth forces many : Nat → Int32} {codes : Nat → Nat → Int32} (hX : SX K W t fo fields ties worth forces many codes) {told manym eights gains : Nat → Int32} (hM : SM K W t fo told manym eights gains) {bN : Nat → Nat} {bI : Nat → Nat → Nat} {bList : Nat → Nat → Int32} {bMany : Nat → Int32} (hB : BKr K fo bN bI bList bMany told) {pN : Nat → Nat} {pI : Nat → Nat → Nat} {pW : Nat → Nat → Int} {pList pWei : Nat → Nat → Int32} {pMany pAll : Nat → Int32} (hP : PLr K fo pN pI pW pList pWei pMany pAll told) {tu : Nat → Nat} {dr : Nat → Nat → Nat} {pTurns : Nat → Int32} {pDrawn : Nat → Nat → Int32} {turns drawn : Nat → Int32} (hT : TNr T tu dr pTurns pDrawn turns drawn) (x1 x2 x3 thrown : Int32) : ∃ (v : Int32) (pList' pWei' pDrawn' : Nat → Nat → Int32) (pMany' pAll' pTurns' told' turns' drawn' : Nat → Int32) (pN' : Nat → Nat) (pI' : Nat → Nat → Nat) (pW' : Nat → Nat → Int) (tu' : Nat → Nat) (dr' : Nat → Nat → Nat), F9_plan z x1 x2 x3 many pList pWei pDrawn pMany pAll pTurns = some (v, pList', pWei', pDrawn', pMany', pAll', pTurns') ∧ F10_plan z x1 x2 x3 thrown told manym eights turns drawn = some (v, 0, told', turns', drawn') ∧ SM K W t fo told' manym eights gains ∧ BKr K fo bN bI bList bMany told' ∧ PLr K fo pN' pI' pW' pList' pWei' pMany' pAll' told' ∧ TNr T tu' dr' pTurns' pDrawn' turns' drawn' := by
  obtain ⟨a, rfl, h1, h2⟩ := i3_ex x1
  obtain ⟨b, rfl, h3, h4⟩ := i3_ex x2
  obtain ⟨c, rfl, h5, h6⟩ := i3_ex x3
  have hwi := within10' h5 h6 (l := 0) (h := 99) (by omega) (by omega) (by omega) (by omega) (L := 0) (H := 99) rfl rfl
  unfold F9_plan F10_plan
  by_cases e1 : isp K fo a b
  · obtain ⟨s, i, rfl, rfl, hs, hi⟩ := e1
    have n0 := ns_bd hX.1 (hX.2.1 s hs)
    obtain ⟨p1, p2, p3, p4, p5, p6⟩ := hP s hs
    have wb := wsum_bd hP hs (pN s) (Nat.le_refl _)
    rw [isSplit4_yes hX hs hi, isSplit10_yes hM hs hi]
    simp only [Option.bind_some]
    rw [if_neg n10, if_neg n10]
    by_cases q : 0 ≤ c ∧ c ≤ 99
    · rw [hwi.1 q]
      obtain ⟨q1, q2⟩ := q
      simp only [Option.bind_some]
      rw [if_neg n10, if_neg (show ¬ i3 c < 0 by rw [i3_l0, i3_lt (by omega) (by omega) (by omega) (by omega)]; omega), if_pos (show i3 c ≤ 99 by rw [i3_l99, i3_le (by omega) (by omega) (by omega) (by omega)]; omega)]
      simp (disch := omega) only [xg_in, i3_xnN]
      obtain ⟨r, hr⟩ := plr_ex (pI s) (pN s) i
      rw [p2, F3_placeOf_ok (z := z) (by omega) p1 (fun k hk => ⟨(p5 k hk).2.2.2.1, by have := (p5 k hk).1; omega⟩) (by omega) hr, F10_entryOf_ok (z := z) (by omega) hM hP hs (by omega) hr, F10_planned_ok hP hs]
      simp only [Option.bind_some]
      have ea8 : F10_at (i3 s) 8 = _ := F10_at_ok s 8
      have ea16 : F10_at (i3 s) 16 = _ := F10_at_ok s 16
      have ea7 : F10_at (i3 s) 7 = _ := F10_at_ok s 7
      have eb : Nat.blt s 2 = true := by rcases two_cases hs with rfl | rfl <;> rfl
      rcases hr with ⟨k, k1, k2, rfl, k3⟩ | ⟨k1, rfl⟩
      · have km : ¬ i3 (k : Int) = -1 := by rw [i3_m1, i3_eq (by omega) (by omega) (by omega) (by omega)]; omega
        rw [if_neg km, if_neg km]
        unfold F9_plan_b65 F10_plan_b60
        rw [if_neg km, if_neg km, eb]
        by_cases c0 : c = 0
        · subst c0
          obtain ⟨n, hn⟩ : ∃ n, pN s = n + 1 := ⟨pN s - 1, by omega⟩
          rw [if_pos (show i3 0 = 0 from rfl), if_pos (show i3 0 = 0 from rfl), p2, hn, F3_drop_ok (by omega) (by omega) (by omega), F10_drop_ok (by omega) hs (by omega) (by omega)]
          unfold F10_plan_b143
          rw [ea7]
          simp (disch := omega) only [xg_in, i3_xnN, Option.bind_some]
          have e7 : sht told (8 + 24 * s + 8) (8 + 24 * s + 16) k n (8 + 24 * s + 7) - 1 = i3 (n : Int) := by
            unfold sht
            rw [if_neg (by omega), p3, hn, i3_l1, i3_sub]
            congr 1; omega
          rw [e7, p4, (p5 k k1).2.2.2.2.1, i3_sub]
          have ho : ∀ j, ¬ (8 + 24 * s + 7 ≤ j ∧ j < 8 + 24 * s + 24) → upd (sht told (8 + 24 * s + 8) (8 + 24 * s + 16) k n) (8 + 24 * s + 7) (i3 (n : Int)) j = told j := fun j hj => by
            rw [upd_diff _ _ (by omega)]
            unfold sht
            rw [if_neg (by omega)]
          have hP' := PLr_put hP hs ho (n := n) (I := fun j => if j < k then pI s j else pI s (j + 1)) (V := fun j => if j < k then pW s j else pW s (j + 1)) (list := shf (pList s) k n) (wei := shf (pWei s) k n) (mm := i3 (n : Int)) (aa := i3 (sm (pN s) (pW s) - pW s k)) (by omega) rfl (upd_same _ _ _) (by rw [sm_drop _ _ _ (by omega), hn]) (fun j hj => by
              rw [upd_diff _ _ (by omega), upd_diff _ _ (by omega)]
              unfold shf sht
              by_cases q3 : j < k
              · obtain ⟨d1, d2, d3, d4, d5, d6, d7⟩ := p5 j (by omega)
                simp only [if_pos q3]
                rw [if_neg (by omega), if_neg (by omega), if_neg (by omega), if_neg (by omega)]
                exact ⟨d1, d2, d3, d4, d5, d6, d7⟩
              · obtain ⟨d1, d2, d3, d4, d5, d6, d7⟩ := p5 (j + 1) (by omega)
                simp only [if_neg q3]
                rw [if_pos (by omega), if_pos (by omega), if_pos (by omega), if_pos (by omega)]
                exact ⟨d1, d2, d3, d4, d5, d6, d7⟩) (fun m j hm hj hmj => by
              by_cases q3 : m < k
              · by_cases q4 : j < k
                · simp only [if_pos q3, if_pos q4]
                  exact p6 m j (by omega) (by omega) hmj
                · simp only [if_pos q3, if_neg q4]
                  exact p6 m (j + 1) (by omega) (by omega) (by omega)
              · by_cases q4 : j < k
                · simp only [if_neg q3, if_pos q4]
                  exact p6 (m + 1) j (by omega) (by omega) (by omega)
                · simp only [if_neg q3, if_neg q4]
                  exact p6 (m + 1) (j + 1) (by omega) (by omega) (by omega))
          obtain ⟨d, d2, tu', dr', g9, g10, hT'⟩ := plan_fin (z := z) (by omega) hP' hT hs 0 many manym eights
          rw [g10]
          refine ⟨_, _, _, _, _, _, _, _, _, _, _, _, _, tu', dr', ?_, rfl, SM_off hM ho, BKr_off hB hs ho, hP', hT'⟩
          exact g9
        · have cn : ¬ i3 c = 0 := by rw [i3_l0, i3_eq (by omega) (by omega) (by omega) (by omega)]; omega
          rw [if_neg cn, if_neg cn]
          unfold F3_weigh F10_plan_b174
          rw [ea8, ea16, ea7, F10_eightsOf_ok hM hs hi]
          simp only [Option.bind_some]
          rw [atN, atN, if_neg km]
          unfold F10_plan_b234
          simp (disch := omega) only [xg_in, i3_xnN, Option.bind_some]
          rw [upd_diff (k := 8 + 24 * s + 16 + k) _ _ (show 8 + 24 * s + 7 ≠ 8 + 24 * s + 16 + k by omega), upd_diff (k := 8 + 24 * s + 8 + k) _ _ (show 8 + 24 * s + 7 ≠ 8 + 24 * s + 8 + k by omega), p3, show i3 (pN s : Int) + 0 = i3 (pN s : Int) from by rw [i3_l0, i3_add, Int.add_zero], p4, (p5 k k1).2.2.2.2.1, i3_sub, i3_add]
          have ho : ∀ j, ¬ (8 + 24 * s + 7 ≤ j ∧ j < 8 + 24 * s + 24) → upd (upd (upd told (8 + 24 * s + 8 + k) (i3 (cd K (fo s) i : Nat))) (8 + 24 * s + 16 + k) (i3 c)) (8 + 24 * s + 7) (i3 (pN s : Int)) j = told j := fun j hj => by
            rw [upd_diff _ _ (by omega), upd_diff _ _ (by omega), upd_diff _ _ (by omega)]
          have hP' := PLr_put hP hs ho (n := pN s) (I := pI s) (V := fun j => if j = k then c else pW s j) (list := pList s) (wei := upd (pWei s) k (i3 c)) (mm := pMany s) (aa := i3 (sm (pN s) (pW s) + (c - pW s k))) p1 p2 (upd_same _ _ _) (by rw [sm_set _ _ _ _ k1]) (fun j hj => by
              obtain ⟨d1, d2, d3, d4, d5, d6, d7⟩ := p5 j hj
              by_cases ej : j = k
              · subst ej
                simp only [if_true]
                exact ⟨d1, by omega, q2, d4, upd_same _ _ _, by rw [upd_diff _ _ (by omega), upd_diff _ _ (by omega), upd_same, k2], by rw [upd_diff _ _ (by omega), upd_same]⟩
              · simp only [if_neg ej]
                exact ⟨d1, d2, d3, d4, (upd_diff _ _ ej).trans d5, by rw [upd_diff _ _ (by omega), upd_diff _ _ (by omega), upd_diff _ _ (by omega)]; exact d6, by rw [upd_diff _ _ (by omega), upd_diff _ _ (by omega), upd_diff _ _ (by omega)]; exact d7⟩) p6
          rw [va_up_id pList s, va_up_id pMany s, va_up_id pI s, va_up_id pN s] at hP'
          obtain ⟨d, d2, tu', dr', g9, g10, hT'⟩ := plan_fin (z := z) (by omega) hP' hT hs 0 many manym eights
          rw [g10]
          refine ⟨_, _, _, _, _, _, _, _, _, _, _, _, _, tu', dr', ?_, rfl, SM_off hM ho, BKr_off hB hs ho, hP', hT'⟩
          exact g9
      · rw [if_pos rfl, if_pos rfl]
        by_cases c0 : c = 0
        · subst c0
          rw [if_pos (show i3 0 = 0 from rfl), if_pos (show i3 0 = 0 from rfl)]
          exact ⟨-1, pList, pWei, pDrawn, pMany, pAll, pTurns, told, turns, drawn, pN, pI, pW, tu, dr, rfl, rfl, hM, hB, hP, hT⟩
        · have cn : ¬ i3 c = 0 := by rw [i3_l0, i3_eq (by omega) (by omega) (by omega) (by omega)]; omega
          rw [if_neg cn, if_neg cn]
          by_cases q8 : pN s = 8
          · rw [if_neg (show ¬ i3 (pN s : Int) < 8 by rw [i3_l8, i3_lt (by omega) (by omega) (by omega) (by omega)]; omega), if_pos (show i3 (pN s : Int) = 8 by rw [q8]; rfl)]
            exact ⟨-1, pList, pWei, pDrawn, pMany, pAll, pTurns, told, turns, drawn, pN, pI, pW, tu, dr, rfl, rfl, hM, hB, hP, hT⟩
          · rw [if_pos (show i3 (pN s : Int) < 8 by rw [i3_l8, i3_lt (by omega) (by omega) (by omega) (by omega)]; omega), if_neg (show ¬ i3 (pN s : Int) = 8 by rw [i3_l8, i3_eq (by omega) (by omega) (by omega) (by omega)]; omega)]
            unfold F9_plan_b65 F10_plan_b60
            rw [if_neg cn, if_pos rfl, if_pos rfl, eb]
            unfold F3_put F10_plan_b174
            rw [p2, if_neg (show ¬ (8 : Int32) ≤ i3 (pN s : Int) by rw [i3_l8, i3_le (by omega) (by omega) (by omega) (by omega)]; omega), ea8, ea16, ea7, F10_eightsOf_ok hM hs hi]
            simp only [Option.bind_some]
            rw [atN, atN, if_pos (show True from trivial)]
            unfold F10_plan_b234
            simp (disch := omega) only [xg_in, i3_xnN, Option.bind_some]
            rw [show i3 (pN s : Int) + 1 = i3 ((pN s + 1 : Nat) : Int) from by rw [i3_l1, i3_add]; rfl, upd_diff (k := 8 + 24 * s + 16 + pN s) _ _ (show 8 + 24 * s + 7 ≠ 8 + 24 * s + 16 + pN s by omega), upd_diff (k := 8 + 24 * s + 8 + pN s) _ _ (show 8 + 24 * s + 7 ≠ 8 + 24 * s + 8 + pN s by omega), p3, show i3 (pN s : Int) + 1 = i3 ((pN s + 1 : Nat) : Int) from by rw [i3_l1, i3_add]; rfl, p4, i3_add]
            have ho : ∀ j, ¬ (8 + 24 * s + 7 ≤ j ∧ j < 8 + 24 * s + 24) → upd (upd (upd told (8 + 24 * s + 8 + pN s) (i3 (cd K (fo s) i : Nat))) (8 + 24 * s + 16 + pN s) (i3 c)) (8 + 24 * s + 7) (i3 ((pN s + 1 : Nat) : Int)) j = told j := fun j hj => by
              rw [upd_diff _ _ (by omega), upd_diff _ _ (by omega), upd_diff _ _ (by omega)]
            have hP' := PLr_put hP hs ho (n := pN s + 1) (I := fun k => if k = pN s then i else pI s k) (V := fun k => if k = pN s then c else pW s k) (list := upd (pList s) (pN s) (i3 (i : Int))) (wei := upd (pWei s) (pN s) (i3 c)) (mm := i3 ((pN s + 1 : Nat) : Int)) (aa := i3 (sm (pN s) (pW s) + c)) (by omega) rfl (upd_same _ _ _) (by
                show _ = i3 (sm (pN s) _ + (if pN s = pN s then c else pW s (pN s)))
                rw [if_pos rfl, sm_congr (g := pW s) (fun j hj => if_neg (by omega))]) (fun k hk => by
                by_cases ek : k = pN s
                · subst ek
                  simp only [if_true]
                  exact ⟨hi, by omega, q2, upd_same _ _ _, upd_same _ _ _, by rw [upd_diff _ _ (by omega), upd_diff _ _ (by omega), upd_same], by rw [upd_diff _ _ (by omega), upd_same]⟩
                · simp only [if_neg ek]
                  obtain ⟨d1, d2, d3, d4, d5, d6, d7⟩ := p5 k (by omega)
                  exact ⟨d1, d2, d3, (upd_diff _ _ ek).trans d4, (upd_diff _ _ ek).trans d5, by rw [upd_diff _ _ (by omega), upd_diff _ _ (by omega), upd_diff _ _ (by omega)]; exact d6, by rw [upd_diff _ _ (by omega), upd_diff _ _ (by omega), upd_diff _ _ (by omega)]; exact d7⟩) (fun k j hk hj hkj => by
                by_cases ek : k = pN s
                · have ej : j ≠ pN s := fun q => hkj (ek.trans q.symm)
                  simp only [ek, if_true, if_neg ej]
                  exact fun q3 => k1 j (by omega) q3.symm
                · by_cases ej : j = pN s
                  · simp only [ej, if_true, if_neg ek]
                    exact fun q3 => k1 k (by omega) q3
                  · simp only [if_neg ek, if_neg ej]
                    exact p6 k j (by omega) (by omega) hkj)
            obtain ⟨d, d2, tu', dr', g9, g10, hT'⟩ := plan_fin (z := z) (by omega) hP' hT hs 0 many manym eights
            rw [g9, g10, if_neg cn]
            exact ⟨_, _, _, _, _, _, _, _, _, _, _, _, _, tu', dr', rfl, rfl, SM_off hM ho, BKr_off hB hs ho, hP', hT'⟩
    · rw [hwi.2 q]
      simp only [Option.bind_some, if_true]
      refine ⟨-1, pList, pWei, pDrawn, pMany, pAll, pTurns, told, turns, drawn, pN, pI, pW, tu, dr, ?_, rfl, hM, hB, hP, hT⟩
      by_cases q1 : c < 0
      · rw [if_pos (show i3 c < 0 by rw [i3_l0, i3_lt (by omega) (by omega) (by omega) (by omega)]; omega)]
      · rw [if_neg (show ¬ i3 c < 0 by rw [i3_l0, i3_lt (by omega) (by omega) (by omega) (by omega)]; omega), if_neg (show ¬ i3 c ≤ 99 by rw [i3_l99, i3_le (by omega) (by omega) (by omega) (by omega)]; omega)]
  · rw [isSplit4_no hX h1 h2 h3 h4 e1, isSplit10_no hM h1 h2 h3 h4 e1]
    exact ⟨-1, pList, pWei, pDrawn, pMany, pAll, pTurns, told, turns, drawn, pN, pI, pW, tu, dr, rfl, rfl, hM, hB, hP, hT⟩
