/-! ===== the text: all lines ===== -/
theorem text_loop {z n : Nat} (hz : 1000 ≤ z) {bs : Nat → Nat} {bytes tape : Nat → Int32} (hB : TB n bs bytes tape) (thrown tmany taped laid : Int32) (told manym eights gains notes seen turns drawn : Nat → Int32) : ∀ (rem w w' L p cn : Nat) (fault kind from' behind : Int32) (fields ties : Int32) (worth forces many : Nat → Int32) (codes bList : Nat → Nat → Int32) (bMany : Nat → Int32) (pList pWei pDrawn : Nat → Nat → Int32) (pMany pAll pTurns : Nat → Int32) (read : Nat → Int32) (fromR next token value number : Int32), L + rem = 60 → rem < w → rem < w' → 1 ≤ L → 6 * (L - 1) ≤ p → cn = 14 * L → TCk bs n p kind from' behind → TRk bs n p fromR next token value → RS fields ties worth forces many codes bList bMany pList pWei pMany pAll read → (∃ (L' : Nat) (r9 : _) (read' : Nat → Int32) (a1 a2 a3 a4 num' : Int32) (cn' : Nat), 1 ≤ L' ∧ L' ≤ 60 ∧ F8_read_b10 z w (i3 L) fault bytes tmany kind from' behind (i3 n) fields ties worth forces many codes bList bMany pList pWei pDrawn pMany pAll pTurns = some r9 ∧ r9.1 = i3 (L' : Nat) ∧ RSt r9.2.2.2.2.2.2 read' ∧ cn' ≤ 1000 ∧ (F10_line z read tape (i3 n) fromR next token value 0 number).bind (fun v => F10_text_b76 z w' (i3 L) v.1 thrown told v.2.1 manym eights gains notes seen turns drawn tape taped (i3 n) v.2.2.1 v.2.2.2.1 v.2.2.2.2.1 v.2.2.2.2.2.1 v.2.2.2.2.2.2.1 v.2.2.2.2.2.2.2 laid cn) = F10_text_b120 z (i3 (L' : Nat)) 1 thrown told read' manym eights gains notes seen turns drawn tape taped (i3 n) a1 a2 a3 a4 0 num' laid cn') ∨ (∃ (e : Int) (x2 : Int32) (r9 : _) (read' : Nat → Int32) (a1 a2 a3 a4 num' : Int32) (cn' : Nat), 1 ≤ e ∧ e ≤ 10000 ∧ F8_read_b10 z w (i3 L) fault bytes tmany kind from' behind (i3 n) fields ties worth forces many codes bList bMany pList pWei pDrawn pMany pAll pTurns = some r9 ∧ r9.1 = i3 (-2 - e) ∧ cn' ≤ 1000 ∧ (F10_line z read tape (i3 n) fromR next token value 0 number).bind (fun v => F10_text_b76 z w' (i3 L) v.1 thrown told v.2.1 manym eights gains notes seen turns drawn tape taped (i3 n) v.2.2.1 v.2.2.2.1 v.2.2.2.2.1 v.2.2.2.2.2.1 v.2.2.2.2.2.2.1 v.2.2.2.2.2.2.2 laid cn) = F10_text_b120 z x2 0 thrown told read' manym eights gains notes seen turns drawn tape taped (i3 n) a1 a2 a3 a4 (i3 e) num' laid cn') := by
  intro rem
  induction rem with
  | zero =>
    intro w w' L p cn fault kind from' behind fields ties worth forces many codes bList bMany pList pWei pDrawn pMany pAll pTurns read fromR next token value number hL hw hw' hL1 hp hcn hC hR hS
    have := hC.1
    have := hB.1
    omega
  | succ rem ih =>
    intro w w' L p cn fault kind from' behind fields ties worth forces many codes bList bMany pList pWei pDrawn pMany pAll pTurns read fromR next token value number hL hw hw' hL1 hp hcn hC hR hS
    obtain ⟨w, rfl⟩ : ∃ v, w = v + 1 := ⟨w - 1, by omega⟩
    obtain ⟨w', rfl⟩ : ∃ v, w' = v + 1 := ⟨w' - 1, by omega⟩
    have n3 := hB.1
    have c1 := hC.1
    unfold F8_read_b10 F8_read_b24 F8_read_b68
    rw [if_neg (show ¬ (300 : Int32) < i3 (L : Int) by rw [i3_l300, i3_lt (by omega) (by omega) (by omega) (by omega)]; omega)]
    rcases line_both hz hB hC hR hS pDrawn pTurns fault number with ⟨p', r9, r10, h9, h10, f9, hC', hR', hp', hS'⟩ | ⟨e, r9, r10, e1, e2, h9, h10, f9, g9, f10, g10⟩
    · have tf := tk_facts bs hC'.1
      have sb := spc_bd bs hC'.1
      have hk := hC'.2.1
      have ht := hR'.2.1.2.2.2.1
      rw [h9, h10]
      simp only [Option.bind_some]
      rw [f9, if_neg n10]
      unfold F10_text_b76 F10_text_b103
      rw [hR'.1, if_neg n10, if_neg n10, hR'.2.2]
      by_cases k0 : tkK bs n p' = 0
      · have e0 : r9.2.2.1 = 0 := by rw [hk, k0]; rfl
        have t0 : r10.2.2.2.2.1 = 0 := by rw [ht, k0]; rfl
        rw [if_pos e0, t0, if_neg (show ¬ (0 : Int32) = 3 by decide), if_pos rfl]
        exact Or.inl ⟨L, _, _, _, _, _, _, _, cn, hL1, by omega, rfl, rfl, hS', by omega, rfl⟩
      · have e0 : ¬ r9.2.2.1 = 0 := by rw [hk, i3_l0, i3_eq (by omega) (by omega) (by omega) (by omega)]; omega
        have t0 : ¬ r10.2.2.2.2.1 = 0 := by rw [ht, i3_l0, i3_eq (by omega) (by omega) (by omega) (by omega)]; omega
        rw [if_neg e0]
        by_cases k3 : tkK bs n p' = 3
        · have e3 : r9.2.2.1 = 3 := by rw [hk, k3]; rfl
          have t3 : r10.2.2.2.2.1 = 3 := by rw [ht, k3]; rfl
          obtain ⟨kC, fC, bC, es, hC2⟩ := TC_step hz hB hC' (by omega)
          obtain ⟨fR, xR, kR, vR, eg, hR2⟩ := TR_go hz hB hR'.2.1
          rw [if_pos e3, if_pos t3, es, xgQ (decide_eq_true (show cn + 0 ≤ 1100 by omega)), eg]
          simp only [Option.bind_some]
          rw [xgQ (decide_eq_true (show cn + 14 ≤ 1100 by omega)), show i3 (L : Int) + 1 = i3 ((L + 1 : Nat) : Int) from by rw [i3_l1, i3_add]; rfl]
          exact ih w w' (L + 1) (tkN bs n p') (cn + 14) _ _ _ _ _ _ _ _ _ _ _ _ _ _ _ _ _ _ _ _ _ _ _ _ (by omega) (by omega) (by omega) (by omega) (by have := tf.2.2.2.1 (by omega); omega) (by omega) hC2 hR2 hS'
        · have e3 : ¬ r9.2.2.1 = 3 := by rw [hk, i3_l3, i3_eq (by omega) (by omega) (by omega) (by omega)]; omega
          have t3 : ¬ r10.2.2.2.2.1 = 3 := by rw [ht, i3_l3, i3_eq (by omega) (by omega) (by omega) (by omega)]; omega
          rw [if_neg e3, if_neg t3, if_neg t0, hC'.2.2.1, refuse_ok (C := 1) (c := 1) rfl, xgQ (decide_eq_true (show cn + 0 ≤ 1100 by omega)), hR'.2.1.2.1, bad_ok (C := 1) (c := 1) rfl]
          simp only [Option.bind_some]
          exact Or.inr ⟨8 * (spc bs n p' : Int) + 1, _, _, _, _, _, _, _, _, cn, by omega, by omega, rfl, rfl, by omega, rfl⟩
    · rw [h9, h10]
      simp only [Option.bind_some]
      rw [f9, if_pos rfl]
      unfold F10_text_b76 F10_text_b103
      rw [f10, if_pos rfl, if_pos rfl, g10]
      exact Or.inr ⟨e, _, _, _, _, _, _, _, _, cn, e1, e2, rfl, g9, by omega, rfl⟩
