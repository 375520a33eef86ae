/-! ===== calls: add, shut, book ===== -/
theorem atN (s c k : Nat) : i3 ((8 + 24 * s + c : Nat) : Int) + i3 (k : Int) = i3 ((8 + 24 * s + c + k : Nat) : Int) := by
  rw [i3_add]; congr 1
theorem F10_booked_ok {K : Nat} {fo bN : Nat → Nat} {bI : Nat → Nat → Nat} {bList : Nat → Nat → Int32} {bMany told : Nat → Int32} (hB : BKr K fo bN bI bList bMany told) {s : Nat} (hs : s < 2) : F10_booked (i3 s) told = some (i3 (bN s : Nat)) := by
  obtain ⟨h1, h2, h3, h4, h5⟩ := hB s hs
  have e : F10_at (i3 s) 0 = _ := F10_at_ok s 0
  unfold F10_booked
  rw [e]
  simp (disch := omega) only [Option.bind_some, xg_in, i3_xnN]
  rw [Nat.add_zero, h3]
theorem F10_bookAt_ok {z K : Nat} (hz : 200 ≤ z) {W : Nat → Int} {t : Int} {fo bN : Nat → Nat} {bI : Nat → Nat → Nat} {bList : Nat → Nat → Int32} {bMany told many eights gains : Nat → Int32} (hM : SM K W t fo told many eights gains) (hB : BKr K fo bN bI bList bMany told) {s k : Nat} (hs : s < 2) (hk : k < bN s) : F10_bookAt z (i3 s) (i3 k) told many eights = some (i3 (bI s k : Nat)) := by
  obtain ⟨h1, h2, h3, h4, h5⟩ := hB s hs
  obtain ⟨a1, a2, a3⟩ := h4 k hk
  have e : F10_at (i3 s) 1 = _ := F10_at_ok s 1
  unfold F10_bookAt
  rw [e]
  simp only [Option.bind_some]
  rw [atN]
  simp (disch := omega) only [xg_in, i3_xnN]
  rw [a3, F10_numberOf_ok hM hs hz, nmb_cd hM.1.2.1 a1]
  rfl
theorem F0_has_ok {z n : Nat} (hz : 20 ≤ z) (hn : n ≤ 6) {f : Nat → Nat} {list : Nat → Int32} (hf : ∀ k, k < n → list k = i3 (f k : Nat) ∧ f k < 1000) {i : Nat} (hi : i < 1000) : ((∃ k, k < n ∧ f k = i) → F0_has z (i3 i) list (i3 n) = some 1) ∧ (¬ (∃ k, k < n ∧ f k = i) → F0_has z (i3 i) list (i3 n) = some 0) := by
  have loop : ∀ (rem w k : Nat), k + rem = n → rem < w → (∀ j, j < k → f j ≠ i) → ((∃ k, k < n ∧ f k = i) → F0_has_b2 z w (i3 i) (i3 k) list (i3 n) = some 1) ∧ (¬ (∃ k, k < n ∧ f k = i) → F0_has_b2 z w (i3 i) (i3 k) list (i3 n) = some 0) := by
    intro rem
    induction rem with
    | zero =>
      intro w k hk hw hno
      obtain ⟨w, rfl⟩ : ∃ w', w = w' + 1 := ⟨w - 1, by omega⟩
      unfold F0_has_b2
      rw [if_pos (by rw [i3_le (by omega) (by omega) (by omega) (by omega)]; omega)]
      refine ⟨fun ⟨j, hj, e⟩ => absurd e (hno j (by omega)), fun _ => rfl⟩
    | succ rem ih =>
      intro w k hk hw hno
      obtain ⟨w, rfl⟩ : ∃ w', w = w' + 1 := ⟨w - 1, by omega⟩
      obtain ⟨e1, e2⟩ := hf k (by omega)
      unfold F0_has_b2
      rw [if_neg (by rw [i3_le (by omega) (by omega) (by omega) (by omega)]; omega), xg_in _ (by omega) (by omega) (by omega), i3_xnN (by omega), e1]
      by_cases q : f k = i
      · rw [if_pos (by rw [q])]
        exact ⟨fun _ => rfl, fun q2 => absurd ⟨k, by omega, q⟩ q2⟩
      · rw [if_neg (by rw [i3_eq (by omega) (by omega) (by omega) (by omega)]; omega), i3_l1, i3_add]
        exact ih w (k + 1) (by omega) (by omega) (fun j hj => by
          by_cases e : j = k
          · rw [e]; exact q
          · exact hno j (by omega))
  exact loop n z 0 (by omega) (by omega) (fun j hj => by omega)
theorem F10_isBooked_ok {z K : Nat} (hz : 200 ≤ z) {W : Nat → Int} {t : Int} {fo bN : Nat → Nat} {bI : Nat → Nat → Nat} {bList : Nat → Nat → Int32} {bMany told many eights gains : Nat → Int32} (hM : SM K W t fo told many eights gains) (hB : BKr K fo bN bI bList bMany told) {s i : Nat} (hs : s < 2) (hi : i < ns K (fo s)) : ((∃ k, k < bN s ∧ bI s k = i) → F10_isBooked z (i3 s) (i3 i) told many eights = some 1) ∧ (¬ (∃ k, k < bN s ∧ bI s k = i) → F10_isBooked z (i3 s) (i3 i) told many eights = some 0) := by
  have n0 := ns_bd hM.1 (hM.2.1 s hs)
  obtain ⟨h1, h2, h3, h4, h5⟩ := hB s hs
  have loop : ∀ (rem w k : Nat) (fl : Int), k + rem = bN s → rem < w → ((fl = 1 ∧ ∃ j, j < k ∧ bI s j = i) ∨ (fl = 0 ∧ ∀ j, j < k → bI s j ≠ i)) → ((∃ k, k < bN s ∧ bI s k = i) → F10_isBooked_b5 z w (i3 s) (i3 i) (i3 fl) (i3 k) told many eights = some 1) ∧ (¬ (∃ k, k < bN s ∧ bI s k = i) → F10_isBooked_b5 z w (i3 s) (i3 i) (i3 fl) (i3 k) told many eights = some 0) := by
    intro rem
    induction rem with
    | zero =>
      intro w k fl hk hw hno
      obtain ⟨w, rfl⟩ : ∃ w', w = w' + 1 := ⟨w - 1, by omega⟩
      unfold F10_isBooked_b5
      rw [F10_booked_ok hB hs]
      simp only [Option.bind_some]
      rw [if_pos (by rw [i3_le (by omega) (by omega) (by omega) (by omega)]; omega), xg_bo _ (by omega)]
      rcases hno with ⟨e, j, hj, e2⟩ | ⟨e, hno⟩
      · subst e
        exact ⟨fun _ => rfl, fun q => absurd ⟨j, by omega, e2⟩ q⟩
      · subst e
        exact ⟨fun ⟨j, hj, e⟩ => absurd e (hno j (by omega)), fun _ => rfl⟩
    | succ rem ih =>
      intro w k fl hk hw hno
      obtain ⟨w, rfl⟩ : ∃ w', w = w' + 1 := ⟨w - 1, by omega⟩
      obtain ⟨e1, e2, e3⟩ := h4 k (by omega)
      unfold F10_isBooked_b5 F10_isBooked_b35
      rw [F10_booked_ok hB hs]
      simp only [Option.bind_some]
      rw [if_neg (by rw [i3_le (by omega) (by omega) (by omega) (by omega)]; omega), F10_bookAt_ok hz hM hB hs (show k < bN s by omega), i3_l1, i3_add]
      rcases hno with ⟨e, j, hj, e4⟩ | ⟨e, hno⟩
      · subst e
        rw [if_neg (show ¬ i3 1 = 0 from n10)]
        exact ih w (k + 1) 1 (by omega) (by omega) (Or.inl ⟨rfl, j, by omega, e4⟩)
      · subst e
        rw [if_pos (show i3 0 = 0 from rfl)]
        simp only [Option.bind_some]
        by_cases q : bI s k = i
        · rw [if_pos (by rw [q])]
          exact ih w (k + 1) 1 (by omega) (by omega) (Or.inl ⟨rfl, k, by omega, q⟩)
        · rw [if_neg (by rw [i3_eq (by omega) (by omega) (by omega) (by omega)]; omega)]
          exact ih w (k + 1) 0 (by omega) (by omega) (Or.inr ⟨rfl, fun j hj => by
            by_cases e : j = k
            · rw [e]; exact q
            · exact hno j (by omega)⟩)
  exact loop (bN s) z 0 0 (by omega) (by omega) (Or.inr ⟨rfl, fun j hj => by omega⟩)
theorem canJoin_ok {z K : Nat} (hz : 200 ≤ z) {W : Nat → Int} {t : Int} {fo : Nat → Nat} {fields ties : Int32} {worth forces many : Nat → Int32} {codes : Nat → Nat → Int32} (hX : SX K W t fo fields ties worth forces many codes) {bN : Nat → Nat} {bI : Nat → Nat → Nat} {bList : Nat → Nat → Int32} {bMany told : Nat → Int32} (hB : BKr K fo bN bI bList bMany told) {s i : Nat} (hs : s < 2) (hi : i < ns K (fo s)) : ((bN s < 6 ∧ ¬ (∃ k, k < bN s ∧ bI s k = i)) → F9_canJoin z (i3 s) (i3 i) many bList bMany = some 1) ∧ (¬ (bN s < 6 ∧ ¬ (∃ k, k < bN s ∧ bI s k = i)) → F9_canJoin z (i3 s) (i3 i) many bList bMany = some 0) := by
  have n0 := ns_bd hX.1 (hX.2.1 s hs)
  obtain ⟨h1, h2, h3, h4, h5⟩ := hB s hs
  unfold F9_canJoin
  rw [isSplit4_yes hX hs hi]
  simp only [Option.bind_some]
  rw [if_neg n10]
  simp (disch := omega) only [xg_in, i3_xnN]
  rw [h2]
  have hh := F0_has_ok (z := z) (by omega) h1 (f := bI s) (list := bList s) (fun k hk => ⟨(h4 k hk).2.1, by have := (h4 k hk).1; omega⟩) (i := i) (by omega)
  by_cases q : bN s < 6
  · rw [if_neg (by rw [i3_l6, i3_le (by omega) (by omega) (by omega) (by omega)]; omega)]
    by_cases q2 : ∃ k, k < bN s ∧ bI s k = i
    · rw [hh.1 q2]
      exact ⟨fun q3 => absurd q2 q3.2, fun _ => rfl⟩
    · rw [hh.2 q2]
      exact ⟨fun _ => rfl, fun q3 => absurd ⟨q, q2⟩ q3⟩
  · rw [if_pos (by rw [i3_l6, i3_le (by omega) (by omega) (by omega) (by omega)]; omega)]
    exact ⟨fun q3 => absurd q3.1 q, fun _ => rfl⟩
theorem call_add {z K : Nat} (hz : 1000 ≤ z) {W : Nat → Int} {t : Int} {fo : Nat → Nat} {fields ties : Int32} {worth forces many : Nat → Int32} {codes : Nat → Nat → Int32} (hX : SX K W t fo fields ties worth forces many codes) {told manym eights gains : Nat → Int32} (hM : SM K W t fo told manym eights gains) {bN : Nat → Nat} {bI : Nat → Nat → Nat} {bList : Nat → Nat → Int32} {bMany : Nat → Int32} (hB : BKr K fo bN bI bList bMany told) {pN : Nat → Nat} {pI : Nat → Nat → Nat} {pW : Nat → Nat → Int} {pList pWei : Nat → Nat → Int32} {pMany pAll : Nat → Int32} (hP : PLr K fo pN pI pW pList pWei pMany pAll told) (x1 x2 thrown : Int32) : ∃ (v : Int32) (bList' : Nat → Nat → Int32) (bMany' told' : Nat → Int32) (bN' : Nat → Nat) (bI' : Nat → Nat → Nat), F9_add z x1 x2 many bList bMany = some (v, bList', bMany') ∧ F10_add z x1 x2 thrown told manym eights = some (v, 0, told') ∧ SM K W t fo told' manym eights gains ∧ BKr K fo bN' bI' bList' bMany' told' ∧ PLr K fo pN pI pW pList pWei pMany pAll told' := by
  obtain ⟨a, rfl, h1, h2⟩ := i3_ex x1
  obtain ⟨b, rfl, h3, h4⟩ := i3_ex x2
  unfold F9_add F10_add
  by_cases e1 : isp K fo a b
  · obtain ⟨s, i, rfl, rfl, hs, hi⟩ := e1
    have n0 := ns_bd hX.1 (hX.2.1 s hs)
    obtain ⟨b1, b2, b3, b4, b5⟩ := hB s hs
    have hK := hX.1.2.1
    rw [isSplit10_yes hM hs hi]
    simp only [Option.bind_some]
    rw [if_neg n10, F10_booked_ok hB hs]
    simp only [Option.bind_some]
    have hc := canJoin_ok (z := z) (by omega) hX hB hs hi
    have hbk := F10_isBooked_ok (z := z) (by omega) hM hB hs hi
    by_cases q : bN s < 6
    · rw [if_neg (by rw [i3_l6, i3_eq (by omega) (by omega) (by omega) (by omega)]; omega)]
      by_cases q2 : ∃ k, k < bN s ∧ bI s k = i
      · rw [hc.2 (fun q3 => q3.2 q2), hbk.1 q2]
        exact ⟨-1, bList, bMany, told, bN, bI, rfl, rfl, hM, hB, hP⟩
      · rw [hc.1 ⟨q, q2⟩, hbk.2 q2]
        simp only [Option.bind_some, if_true]
        rw [if_neg n10]
        have ea1 : F10_at (i3 s) 1 = _ := F10_at_ok s 1
        have ea0 : F10_at (i3 s) 0 = _ := F10_at_ok s 0
        rw [ea1, ea0]
        simp only [Option.bind_some]
        rw [F10_eightsOf_ok hM hs hi, atN]
        simp (disch := omega) only [Option.bind_some, xg_in, i3_xnN]
        unfold F0_put
        rw [b2, if_neg (by rw [i3_l6, i3_le (by omega) (by omega) (by omega) (by omega)]; omega)]
        simp (disch := omega) only [Option.bind_some, xg_in, i3_xnN]
        have ecount : upd told (8 + 24 * s + 1 + bN s) (i3 (cd K (fo s) i : Nat)) (8 + 24 * s + 0) + 1 = i3 ((bN s + 1 : Nat) : Int) := by
          rw [upd_diff _ _ (by omega), Nat.add_zero, b3, i3_l1, i3_add]; rfl
        rw [ecount]
        have hB' : BKr K fo (fun s' => if s' = s then bN s + 1 else bN s') (fun s' k => if s' = s ∧ k = bN s then i else bI s' k) (va_up bList s (upd (bList s) (bN s) (i3 (i : Int)))) (va_up bMany s (i3 (bN s : Int) + 1)) (upd (upd told (8 + 24 * s + 1 + bN s) (i3 (cd K (fo s) i : Nat))) (8 + 24 * s + 0) (i3 ((bN s + 1 : Nat) : Int))) := by
          intro s' hs'
          by_cases es : s' = s
          · subst es
            refine ⟨by simp only [if_true]; omega, ?_, ?_, fun k hk => ?_, fun k j hk hj hkj => ?_⟩
            · simp only [if_true]
              rw [va_up_self, i3_l1, i3_add]; rfl
            · simp only [if_true]
              exact upd_same _ _ _
            · simp only [if_true] at hk
              by_cases ek : k = bN s'
              · subst ek
                simp only [and_self, if_true]
                refine ⟨hi, ?_, ?_⟩
                · rw [va_up_self, upd_same]
                · rw [upd_diff _ _ (by omega), upd_same]
              · simp only [ek, and_false, if_false]
                obtain ⟨c1, c2, c3⟩ := b4 k (by omega)
                refine ⟨c1, ?_, ?_⟩
                · rw [va_up_self, upd_diff _ _ ek]; exact c2
                · rw [upd_diff _ _ (by omega), upd_diff _ _ (by omega)]; exact c3
            · simp only [if_true] at hk hj
              by_cases ek : k = bN s'
              · subst ek
                have ej : j ≠ bN s' := fun q => hkj q.symm
                simp only [and_self, if_true, ej, and_false, if_false]
                exact fun q3 => q2 ⟨j, by omega, q3.symm⟩
              · by_cases ej : j = bN s'
                · subst ej
                  simp only [and_self, if_true, ek, and_false, if_false]
                  exact fun q3 => q2 ⟨k, by omega, q3⟩
                · simp only [ek, ej, and_false, if_false]
                  exact b5 k j (by omega) (by omega) hkj
          · obtain ⟨c1, c2, c3, c4, c5⟩ := hB s' hs'
            have hnb : ∀ k, ¬ (s' = s ∧ k = bN s) := fun k q => es q.1
            simp only [if_neg es, if_neg (hnb _)]
            refine ⟨c1, ?_, ?_, fun k hk => ?_, c5⟩
            · rw [va_up_ne _ _ es]; exact c2
            · rw [upd_diff _ _ (by omega), upd_diff _ _ (by omega)]; exact c3
            · obtain ⟨d1, d2, d3⟩ := c4 k hk
              exact ⟨d1, by rw [va_up_ne _ _ es]; exact d2, by rw [upd_diff _ _ (by omega), upd_diff _ _ (by omega)]; exact d3⟩
        have hP' : PLr K fo pN pI pW pList pWei pMany pAll (upd (upd told (8 + 24 * s + 1 + bN s) (i3 (cd K (fo s) i : Nat))) (8 + 24 * s + 0) (i3 ((bN s + 1 : Nat) : Int))) := by
          intro s' hs'
          obtain ⟨c1, c2, c3, c4, c5, c6⟩ := hP s' hs'
          refine ⟨c1, c2, ?_, c4, fun k hk => ?_, c6⟩
          · rw [upd_diff _ _ (by omega), upd_diff _ _ (by omega)]; exact c3
          · obtain ⟨d1, d2, d3, d4, d5, d6, d7⟩ := c5 k hk
            exact ⟨d1, d2, d3, d4, d5, by rw [upd_diff _ _ (by omega), upd_diff _ _ (by omega)]; exact d6, by rw [upd_diff _ _ (by omega), upd_diff _ _ (by omega)]; exact d7⟩
        have hM' : SM K W t fo (upd (upd told (8 + 24 * s + 1 + bN s) (i3 (cd K (fo s) i : Nat))) (8 + 24 * s + 0) (i3 ((bN s + 1 : Nat) : Int))) manym eights gains := by
          obtain ⟨m1, m2, m3, m4, m5, m6, m7, m8, m9⟩ := hM
          refine ⟨m1, m2, ?_, fun k hk => ?_, fun s' hs' => ?_, ?_, m7, m8, m9⟩
          · rw [upd_diff _ _ (by omega), upd_diff _ _ (by omega)]; exact m3
          · rw [upd_diff _ _ (by omega), upd_diff _ _ (by omega)]; exact m4 k hk
          · rw [upd_diff _ _ (by omega), upd_diff _ _ (by omega)]; exact m5 s' hs'
          · rw [upd_diff _ _ (by omega), upd_diff _ _ (by omega)]; exact m6
        have hbk2 := F10_booked_ok hB' hs
        rw [hbk2]
        simp only [Option.bind_some, if_true]
        refine ⟨_, _, _, _, _, _, rfl, ?_, hM', hB', hP'⟩
        rw [va_up_self, i3_l1, i3_add]
        rfl
    · rw [if_pos (by rw [show bN s = 6 by omega]; rfl), hc.2 (fun q3 => q q3.1)]
      exact ⟨-1, bList, bMany, told, bN, bI, rfl, rfl, hM, hB, hP⟩
  · have e0 : F9_canJoin z (i3 a) (i3 b) many bList bMany = some 0 := by
      unfold F9_canJoin
      rw [isSplit4_no hX h1 h2 h3 h4 e1]
      rfl
    rw [e0, isSplit10_no hM h1 h2 h3 h4 e1]
    exact ⟨-1, bList, bMany, told, bN, bI, rfl, rfl, hM, hB, hP⟩
theorem call_shut {K : Nat} {W : Nat → Int} {t : Int} {fo : Nat → Nat} {told manym eights gains : Nat → Int32} (hM : SM K W t fo told manym eights gains) {bN : Nat → Nat} {bI : Nat → Nat → Nat} {bList : Nat → Nat → Int32} {bMany : Nat → Int32} (hB : BKr K fo bN bI bList bMany told) {pN : Nat → Nat} {pI : Nat → Nat → Nat} {pW : Nat → Nat → Int} {pList pWei : Nat → Nat → Int32} {pMany pAll : Nat → Int32} (hP : PLr K fo pN pI pW pList pWei pMany pAll told) (x1 thrown : Int32) : ∃ (v : Int32) (bMany' told' : Nat → Int32) (bN' : Nat → Nat), F9_shut x1 bMany = some (v, bMany') ∧ F10_shut x1 thrown told = some (v, 0, told') ∧ SM K W t fo told' manym eights gains ∧ BKr K fo bN' bI bList bMany' told' ∧ PLr K fo pN pI pW pList pWei pMany pAll told' := by
  obtain ⟨a, rfl, h1, h2⟩ := i3_ex x1
  have hK := hM.1.2.1
  unfold F9_shut F10_shut
  rw [isSide9 a h1 h2, isSide10 a h1 h2]
  simp only [Option.bind_some]
  by_cases e : a = 0 ∨ a = 1
  · obtain ⟨s, hs, ea⟩ : ∃ s : Nat, s < 2 ∧ a = s := ⟨a.toNat, by omega, by omega⟩
    subst ea
    obtain ⟨b1, b2, b3, b4, b5⟩ := hB s hs
    have ea0 : F10_at (i3 s) 0 = _ := F10_at_ok s 0
    rw [if_pos e, if_neg n10, if_neg n10, F10_booked_ok hB hs, ea0]
    simp (disch := omega) only [Option.bind_some, xg_in, i3_xnN]
    rw [b2]
    refine ⟨_, _, _, fun s' => if s' = s then 0 else bN s', rfl, rfl, ?_, fun s' hs' => ?_, fun s' hs' => ?_⟩
    · obtain ⟨m1, m2, m3, m4, m5, m6, m7, m8, m9⟩ := hM
      refine ⟨m1, m2, ?_, fun k hk => ?_, fun s' hs' => ?_, ?_, m7, m8, m9⟩
      · rw [upd_diff _ _ (by omega)]; exact m3
      · rw [upd_diff _ _ (by omega)]; exact m4 k hk
      · rw [upd_diff _ _ (by omega)]; exact m5 s' hs'
      · rw [upd_diff _ _ (by omega)]; exact m6
    · obtain ⟨c1, c2, c3, c4, c5⟩ := hB s' hs'
      by_cases es : s' = s
      · subst es
        simp only [if_true]
        refine ⟨by omega, va_up_self _ _ _, ?_, fun k hk => absurd hk (Nat.not_lt_zero k), fun k j hk => absurd hk (Nat.not_lt_zero k)⟩
        rw [Nat.add_zero, upd_same]; rfl
      · simp only [if_neg es]
        refine ⟨c1, by rw [va_up_ne _ _ es]; exact c2, by rw [upd_diff _ _ (by omega)]; exact c3, fun k hk => ?_, c5⟩
        obtain ⟨d1, d2, d3⟩ := c4 k hk
        exact ⟨d1, d2, by rw [upd_diff _ _ (by omega)]; exact d3⟩
    · obtain ⟨c1, c2, c3, c4, c5, c6⟩ := hP s' hs'
      refine ⟨c1, c2, by rw [upd_diff _ _ (by omega)]; exact c3, c4, fun k hk => ?_, c6⟩
      obtain ⟨d1, d2, d3, d4, d5, d6, d7⟩ := c5 k hk
      exact ⟨d1, d2, d3, d4, d5, by rw [upd_diff _ _ (by omega)]; exact d6, by rw [upd_diff _ _ (by omega)]; exact d7⟩
  · rw [if_neg e]
    exact ⟨-1, bMany, told, bN, rfl, rfl, hM, hB, hP⟩
theorem call_book {z K : Nat} (hz : 1000 ≤ z) {W : Nat → Int} {t : Int} {fo : Nat → Nat} {told manym eights gains : Nat → Int32} (hM : SM K W t fo told manym eights gains) {bN : Nat → Nat} {bI : Nat → Nat → Nat} {bList : Nat → Nat → Int32} {bMany : Nat → Int32} (hB : BKr K fo bN bI bList bMany told) (x1 x2 thrown : Int32) : ∃ v, F9_book x1 x2 bList bMany = some v ∧ F10_book z x1 x2 thrown told manym eights = some (v, 0) := by
  obtain ⟨a, rfl, h1, h2⟩ := i3_ex x1
  obtain ⟨b, rfl, h3, h4⟩ := i3_ex x2
  unfold F9_book F10_book
  rw [isSide9 a h1 h2, isSide10 a h1 h2]
  simp only [Option.bind_some]
  by_cases e : a = 0 ∨ a = 1
  · obtain ⟨s, hs, ea⟩ : ∃ s : Nat, s < 2 ∧ a = s := ⟨a.toNat, by omega, by omega⟩
    subst ea
    obtain ⟨b1, b2, b3, b4, b5⟩ := hB s hs
    rw [if_pos e, if_neg n10, if_neg n10, F10_booked_ok hB hs]
    simp (disch := omega) only [Option.bind_some, xg_in, i3_xnN]
    rw [b2]
    by_cases q1 : b = -1
    · subst q1
      rw [if_pos i3_m1.symm, if_neg (by rw [i3_m1, i3_lt (by omega) (by omega) (by omega) (by omega)]; omega), if_pos (by rw [i3_lt (by omega) (by omega) (by omega) (by omega)]; omega), if_pos i3_m1.symm]
      exact ⟨_, rfl, rfl⟩
    · rw [if_neg (by rw [i3_m1, i3_eq (by omega) (by omega) (by omega) (by omega)]; exact q1)]
      by_cases q2 : b < 0
      · rw [if_pos (by rw [i3_l0, i3_lt (by omega) (by omega) (by omega) (by omega)]; exact q2), if_pos (by rw [i3_m1, i3_lt (by omega) (by omega) (by omega) (by omega)]; omega)]
        exact ⟨_, rfl, rfl⟩
      · have c1 : ¬ i3 b < 0 := by rw [i3_l0, i3_lt (by omega) (by omega) (by omega) (by omega)]; exact q2
        have c2 : ¬ i3 b < -1 := by rw [i3_m1, i3_lt (by omega) (by omega) (by omega) (by omega)]; omega
        rw [if_neg c1, if_neg c2]
        by_cases q3 : (bN s : Int) ≤ b
        · rw [if_pos (show i3 (bN s : Int) ≤ i3 b by rw [i3_le (by omega) (by omega) (by omega) (by omega)]; exact q3), if_neg (show ¬ i3 b < i3 (bN s : Int) by rw [i3_lt (by omega) (by omega) (by omega) (by omega)]; omega)]
          exact ⟨_, rfl, rfl⟩
        · obtain ⟨k, ek⟩ : ∃ k : Nat, b = k := ⟨b.toNat, by omega⟩
          subst ek
          rw [if_neg (show ¬ i3 (bN s : Int) ≤ i3 (k : Int) by rw [i3_le (by omega) (by omega) (by omega) (by omega)]; exact q3), if_pos (show i3 (k : Int) < i3 (bN s : Int) by rw [i3_lt (by omega) (by omega) (by omega) (by omega)]; omega), if_neg (show ¬ i3 (k : Int) = -1 by rw [i3_m1, i3_eq (by omega) (by omega) (by omega) (by omega)]; exact q1), F10_bookAt_ok (by omega) hM hB hs (show k < bN s by omega)]
          simp (disch := omega) only [Option.bind_some, xg_in, i3_xnN]
          rw [(b4 k (by omega)).2.1]
          exact ⟨_, rfl, rfl⟩
  · rw [if_neg e]
    exact ⟨_, rfl, rfl⟩
