/-! ===== calls: state, note, entry, count, ways ===== -/
theorem F10_planned_ok {K : Nat} {fo pN : Nat → Nat} {pI : Nat → Nat → Nat} {pW : Nat → Nat → Int} {pList pWei : Nat → Nat → Int32} {pMany pAll told : Nat → Int32} (hP : PLr K fo pN pI pW pList pWei pMany pAll told) {s : Nat} (hs : s < 2) : F10_planned (i3 s) told = some (i3 (pN s : Nat)) := by
  obtain ⟨h1, h2, h3, h4, h5, h6⟩ := hP s hs
  have e : F10_at (i3 s) 7 = _ := F10_at_ok s 7
  unfold F10_planned
  rw [e]
  simp (disch := omega) only [Option.bind_some, xg_in, i3_xnN]
  rw [h3]
theorem F10_planAt_ok {z K : Nat} (hz : 200 ≤ z) {W : Nat → Int} {t : Int} {fo pN : Nat → Nat} {pI : Nat → Nat → Nat} {pW : Nat → Nat → Int} {pList pWei : Nat → Nat → Int32} {pMany pAll told many eights gains : Nat → Int32} (hM : SM K W t fo told many eights gains) (hP : PLr K fo pN pI pW pList pWei pMany pAll told) {s k : Nat} (hs : s < 2) (hk : k < pN s) : F10_planAt z (i3 s) (i3 k) told many eights = some (i3 (pI s k : Nat)) := by
  obtain ⟨h1, h2, h3, h4, h5, h6⟩ := hP s hs
  obtain ⟨a1, a2, a3, a4, a5, a6, a7⟩ := h5 k hk
  have e : F10_at (i3 s) 8 = _ := F10_at_ok s 8
  unfold F10_planAt
  rw [e]
  simp only [Option.bind_some]
  rw [atN]
  simp (disch := omega) only [xg_in, i3_xnN]
  rw [a6, F10_numberOf_ok hM hs hz, nmb_cd hM.1.2.1 a1]
  rfl
theorem F10_weightAt_ok {K : Nat} {fo pN : Nat → Nat} {pI : Nat → Nat → Nat} {pW : Nat → Nat → Int} {pList pWei : Nat → Nat → Int32} {pMany pAll told : Nat → Int32} (hP : PLr K fo pN pI pW pList pWei pMany pAll told) {s k : Nat} (hs : s < 2) (hk : k < pN s) : F10_weightAt (i3 s) (i3 k) told = some (i3 (pW s k)) := by
  obtain ⟨h1, h2, h3, h4, h5, h6⟩ := hP s hs
  obtain ⟨a1, a2, a3, a4, a5, a6, a7⟩ := h5 k hk
  have e : F10_at (i3 s) 16 = _ := F10_at_ok s 16
  unfold F10_weightAt
  rw [e]
  simp only [Option.bind_some]
  rw [atN]
  simp (disch := omega) only [xg_in, i3_xnN]
  rw [a7]
/-- all weights together -/
theorem wsum_bd {K : Nat} {fo pN : Nat → Nat} {pI : Nat → Nat → Nat} {pW : Nat → Nat → Int} {pList pWei : Nat → Nat → Int32} {pMany pAll told : Nat → Int32} (hP : PLr K fo pN pI pW pList pWei pMany pAll told) {s : Nat} (hs : s < 2) : ∀ k, k ≤ pN s → (k : Int) ≤ sm k (pW s) ∧ sm k (pW s) ≤ 99 * k := by
  obtain ⟨h1, h2, h3, h4, h5, h6⟩ := hP s hs
  intro k
  induction k with
  | zero => intro _; exact ⟨Int.le_refl _, Int.le_refl _⟩
  | succ k ih =>
    intro hk
    have := ih (by omega)
    obtain ⟨a1, a2, a3, -⟩ := h5 k (by omega)
    show ((k + 1 : Nat) : Int) ≤ sm k (pW s) + pW s k ∧ sm k (pW s) + pW s k ≤ 99 * ((k + 1 : Nat) : Int)
    omega
theorem F10_weights_ok {z K : Nat} (hz : 20 ≤ z) {fo pN : Nat → Nat} {pI : Nat → Nat → Nat} {pW : Nat → Nat → Int} {pList pWei : Nat → Nat → Int32} {pMany pAll told : Nat → Int32} (hP : PLr K fo pN pI pW pList pWei pMany pAll told) {s : Nat} (hs : s < 2) : F10_weights z (i3 s) told = some (i3 (sm (pN s) (pW s))) := by
  have h8 := (hP s hs).1
  have loop : ∀ (rem w k : Nat), k + rem = pN s → rem < w → F10_weights_b4 z w (i3 s) (i3 (sm k (pW s))) (i3 k) told = some (i3 (sm (pN s) (pW s))) := by
    intro rem
    induction rem with
    | zero =>
      intro w k hk hw
      obtain ⟨w, rfl⟩ : ∃ w', w = w' + 1 := ⟨w - 1, by omega⟩
      have e : k = pN s := by omega
      unfold F10_weights_b4
      rw [F10_planned_ok hP hs]
      simp only [Option.bind_some]
      rw [if_pos (by rw [i3_le (by omega) (by omega) (by omega) (by omega)]; omega), e]
    | succ rem ih =>
      intro w k hk hw
      obtain ⟨w, rfl⟩ : ∃ w', w = w' + 1 := ⟨w - 1, by omega⟩
      unfold F10_weights_b4
      rw [F10_planned_ok hP hs]
      simp only [Option.bind_some]
      rw [if_neg (by rw [i3_le (by omega) (by omega) (by omega) (by omega)]; omega), F10_weightAt_ok hP hs (show k < pN s by omega)]
      simp only [Option.bind_some]
      rw [i3_add, i3_l1, i3_add]
      exact ih w (k + 1) (by omega) (by omega)
  exact loop (pN s) z 0 (by omega) (by omega)
theorem call_note {K : Nat} {W : Nat → Int} {t : Int} {fo : Nat → Nat} {fields ties : Int32} {worth forces many : Nat → Int32} {codes : Nat → Nat → Int32} (hX : SX K W t fo fields ties worth forces many codes) {told manym eights gains : Nat → Int32} (hM : SM K W t fo told manym eights gains) {nN : Nat → Nat} {nS : Nat → Nat → Nat} {ntSeen : Nat → Nat → Int32} {ntMany notes seen : Nat → Int32} (hN : NTr K fo nN nS ntSeen ntMany notes seen) (x1 x2 thrown : Int32) : ∃ (v : Int32) (ntSeen' : Nat → Nat → Int32) (ntMany' notes' seen' : Nat → Int32) (nN' : Nat → Nat) (nS' : Nat → Nat → Nat), F9_note x1 x2 many ntSeen ntMany = some (v, ntSeen', ntMany') ∧ F10_note x1 x2 thrown manym notes seen = some (v, 0, notes', seen') ∧ NTr K fo nN' nS' ntSeen' ntMany' notes' seen' := by
  obtain ⟨a, rfl, h1, h2⟩ := i3_ex x1
  obtain ⟨b, rfl, h3, h4⟩ := i3_ex x2
  unfold F9_note F10_note
  by_cases e1 : isp K fo a b
  · obtain ⟨s, i, rfl, rfl, hs, hi⟩ := e1
    have n0 := ns_bd hX.1 (hX.2.1 s hs)
    obtain ⟨c1, c2, c3, c4⟩ := hN s hs
    obtain ⟨d1, d2, d3⟩ := c4 i hi
    have e128 : (128 : Int32) * i3 (s : Int) + i3 (i : Int) = i3 ((128 * s + i : Nat) : Int) := by
      rw [i3_l128, i3_mul, i3_add]; congr 1 <;> omega
    rw [isSplit4_yes hX hs hi, isSplit10_yes hM hs hi]
    simp only [Option.bind_some]
    rw [if_neg n10, if_neg n10, e128]
    simp (disch := omega) only [xg_in, i3_xnN]
    rw [c2, c3]
    by_cases q : nN s < 40
    · rw [if_pos (by rw [i3_l40, i3_lt (by omega) (by omega) (by omega) (by omega)]; omega), if_neg (by rw [i3_l40, i3_eq (by omega) (by omega) (by omega) (by omega)]; omega)]
      unfold F2_put
      simp (disch := omega) only [xg_in, i3_xnN, Option.bind_some]
      rw [d2, d3, va_up_self, upd_same]
      have ek : i3 (nN s : Int) + 1 = i3 ((nN s + 1 : Nat) : Int) := by rw [i3_l1, i3_add]; rfl
      have es : i3 (nS s i : Int) + 1 = i3 ((nS s i + 1 : Nat) : Int) := by rw [i3_l1, i3_add]; rfl
      rw [ek, es]
      refine ⟨_, _, _, _, _, fun s' => if s' = s then nN s + 1 else nN s', fun s' j => if s' = s ∧ j = i then nS s i + 1 else nS s' j, rfl, rfl, fun s' hs' => ?_⟩
      by_cases e : s' = s
      · subst e
        simp only [if_true, true_and]
        refine ⟨by omega, va_up_self _ _ _, upd_same _ _ _, fun j hj => ?_⟩
        obtain ⟨f1, f2, f3⟩ := c4 j hj
        by_cases ej : j = i
        · subst ej
          simp only [if_true]
          exact ⟨by omega, by rw [va_up_self, upd_same], upd_same _ _ _⟩
        · simp only [if_neg ej]
          exact ⟨by omega, by rw [va_up_self, upd_diff _ _ ej]; exact f2, by rw [upd_diff _ _ (by omega)]; exact f3⟩
      · obtain ⟨f1, f2, f3, f4⟩ := hN s' hs'
        have n2 := ns_bd hX.1 (hX.2.1 s' hs')
        simp only [if_neg e, e, false_and, if_false]
        refine ⟨f1, by rw [va_up_ne _ _ e]; exact f2, by rw [upd_diff _ _ e]; exact f3, fun j hj => ?_⟩
        obtain ⟨g1, g2, g3⟩ := f4 j hj
        exact ⟨g1, by rw [va_up_ne _ _ e]; exact g2, by rw [upd_diff _ _ (by omega)]; exact g3⟩
    · rw [if_neg (by rw [i3_l40, i3_lt (by omega) (by omega) (by omega) (by omega)]; omega), if_pos (by rw [show nN s = 40 by omega]; rfl)]
      exact ⟨-1, ntSeen, ntMany, notes, seen, nN, nS, rfl, rfl, hN⟩
  · rw [isSplit4_no hX h1 h2 h3 h4 e1, isSplit10_no hM h1 h2 h3 h4 e1]
    exact ⟨-1, ntSeen, ntMany, notes, seen, nN, nS, rfl, rfl, hN⟩
theorem call_entry {z K T : Nat} (hz : 1000 ≤ z) {W : Nat → Int} {t : Int} {fo : Nat → Nat} {told manym eights gains : Nat → Int32} (hM : SM K W t fo told manym eights gains) {pN : Nat → Nat} {pI : Nat → Nat → Nat} {pW : Nat → Nat → Int} {pList pWei : Nat → Nat → Int32} {pMany pAll : Nat → Int32} (hP : PLr K fo pN pI pW pList pWei pMany pAll told) {tu : Nat → Nat} {dr : Nat → Nat → Nat} {pTurns : Nat → Int32} {pDrawn : Nat → Nat → Int32} {turns drawn : Nat → Int32} (hT : TNr T tu dr pTurns pDrawn turns drawn) (x1 x2 x3 thrown : Int32) : ∃ v, F9_entry x1 x2 x3 pList pWei pDrawn pMany = some v ∧ F10_entry z x1 x2 x3 thrown told manym eights drawn = some (v, 0) := by
  obtain ⟨a, rfl, h1, h2⟩ := i3_ex x1
  obtain ⟨b, rfl, h3, h4⟩ := i3_ex x2
  obtain ⟨c, rfl, h5, h6⟩ := i3_ex x3
  have hwi := within10' h5 h6 (l := 0) (h := 2) (by omega) (by omega) (by omega) (by omega) (L := 0) (H := 2) rfl rfl
  unfold F9_entry F10_entry
  rw [isSide9 a h1 h2, isSide10 a h1 h2]
  simp only [Option.bind_some]
  by_cases e : a = 0 ∨ a = 1
  · obtain ⟨s, hs, ea⟩ : ∃ s : Nat, s < 2 ∧ a = s := ⟨a.toNat, by omega, by omega⟩
    subst ea
    obtain ⟨p1, p2, p3, p4, p5, p6⟩ := hP s hs
    rw [if_pos e, if_neg n10, if_neg n10]
    by_cases q0 : 0 ≤ c ∧ c ≤ 2
    · rw [hwi.1 q0, if_neg (show ¬ i3 c < 0 by rw [i3_l0, i3_lt h5 h6 (by omega) (by omega)]; omega), if_pos (show i3 c ≤ 2 by rw [i3_l2, i3_le h5 h6 (by omega) (by omega)]; omega)]
      simp (disch := omega) only [Option.bind_some, xg_in, i3_xnN]
      rw [if_neg n10, F10_planned_ok hP hs, p2]
      simp only [Option.bind_some]
      by_cases q1 : b = -1
      · subst q1
        rw [if_pos i3_m1.symm, if_neg (show ¬ i3 (-1) < -1 by decide), if_pos (show i3 (-1) < i3 (pN s : Int) by rw [i3_lt (by omega) (by omega) (by omega) (by omega)]; omega), if_pos i3_m1.symm]
        exact ⟨_, rfl, rfl⟩
      · have d1 : ¬ i3 b = -1 := by rw [i3_m1, i3_eq (by omega) (by omega) (by omega) (by omega)]; exact q1
        rw [if_neg d1]
        by_cases q2 : b < 0
        · rw [if_pos (show i3 b < 0 by rw [i3_l0, i3_lt (by omega) (by omega) (by omega) (by omega)]; exact q2), if_pos (show i3 b < -1 by rw [i3_m1, i3_lt (by omega) (by omega) (by omega) (by omega)]; omega)]
          exact ⟨_, rfl, rfl⟩
        · rw [if_neg (show ¬ i3 b < 0 by rw [i3_l0, i3_lt (by omega) (by omega) (by omega) (by omega)]; exact q2), if_neg (show ¬ i3 b < -1 by rw [i3_m1, i3_lt (by omega) (by omega) (by omega) (by omega)]; omega)]
          by_cases q3 : b < (pN s : Int)
          · obtain ⟨k, ek⟩ : ∃ k : Nat, b = k := ⟨b.toNat, by omega⟩
            subst ek
            have d3 : i3 (k : Int) < i3 (pN s : Int) := by rw [i3_lt (by omega) (by omega) (by omega) (by omega)]; exact q3
            obtain ⟨g1, g2, g3, g4, g5, g6, g7⟩ := p5 k (by omega)
            rw [if_pos d3, if_pos d3, if_neg d1, F10_planAt_ok (by omega) hM hP hs (show k < pN s by omega), F10_weightAt_ok hP hs (show k < pN s by omega), i3_8]
            simp (disch := omega) only [Option.bind_some, xg_in, i3_xnN]
            obtain ⟨t1, t2, t3, t4⟩ := hT s hs
            obtain ⟨u1, u2, u3⟩ := t4 k (by omega)
            rw [g4, g5, u2, u3]
            by_cases c0 : i3 c = 0
            · rw [if_pos c0, if_pos c0]; exact ⟨_, rfl, rfl⟩
            · rw [if_neg c0, if_neg c0]
              by_cases c1 : i3 c = 1
              · rw [if_pos c1, if_pos c1]; exact ⟨_, rfl, rfl⟩
              · rw [if_neg c1, if_neg c1]; exact ⟨_, rfl, rfl⟩
          · have d3 : ¬ i3 b < i3 (pN s : Int) := by rw [i3_lt (by omega) (by omega) (by omega) (by omega)]; exact q3
            rw [if_neg d3, if_neg d3]
            exact ⟨_, rfl, rfl⟩
    · rw [hwi.2 q0]
      simp only [Option.bind_some, if_true]
      by_cases q1 : c < 0
      · rw [if_pos (show i3 c < 0 by rw [i3_l0, i3_lt h5 h6 (by omega) (by omega)]; exact q1)]
        exact ⟨_, rfl, rfl⟩
      · rw [if_neg (show ¬ i3 c < 0 by rw [i3_l0, i3_lt h5 h6 (by omega) (by omega)]; exact q1), if_neg (show ¬ i3 c ≤ 2 by rw [i3_l2, i3_le h5 h6 (by omega) (by omega)]; omega)]
        exact ⟨_, rfl, rfl⟩
  · rw [if_neg e]
    exact ⟨_, rfl, rfl⟩
