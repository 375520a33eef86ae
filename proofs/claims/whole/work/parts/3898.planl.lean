/-! ===== the text: the line of a plan ===== -/
def PLo (bs : Nat → Nat) (n p : Nat) (fields ties : Int32) (worth forces many : Nat → Int32) (codes bList : Nat → Nat → Int32) (bMany : Nat → Int32) (o9 : Option (Int32 × Int32 × Int32 × Int32 × Int32 × (Nat → Nat → Int32) × (Nat → Nat → Int32) × (Nat → Nat → Int32) × (Nat → Int32) × (Nat → Int32) × (Nat → Int32))) (o10 : Option (Int32 × (Nat → Int32) × Int32 × Int32 × Int32 × Int32 × Int32 × Int32)) : Prop :=
  (∃ p' r9 r10, o9 = some r9 ∧ o10 = some r10 ∧ r9.1 = 1 ∧ TCk bs n p' r9.2.2.1 r9.2.2.2.1 r9.2.2.2.2.1 ∧ okR bs n p' r10 ∧ p + 1 ≤ p' ∧ RS fields ties worth forces many codes bList bMany r9.2.2.2.2.2.1 r9.2.2.2.2.2.2.1 r9.2.2.2.2.2.2.2.2.1 r9.2.2.2.2.2.2.2.2.2.1 r10.2.1) ∨ (∃ e r9 r10, 1 ≤ e ∧ e ≤ 10000 ∧ o9 = some r9 ∧ o10 = some r10 ∧ r9.1 = 0 ∧ r9.2.1 = i3 (-2 - e) ∧ noR e r10)
theorem xgT {α : Type} (k : Option α) : xg true k = k := rfl
theorem xgQ {α : Type} {b : Bool} (h : b = true) (k : Option α) : xg b k = k := by subst h; rfl
theorem dq00 : decide ((0 : Nat) + 0 ≤ 1) = true := decide_eq_true (by omega)
theorem dq0 : decide ((0 : Nat) ≤ 1) = true := decide_eq_true (by omega)
theorem dq1 : decide ((0 : Nat) + 1 ≤ 1) = true := decide_eq_true (by omega)
theorem dq10 : decide ((0 : Nat) + 1 + 0 ≤ 1) = true := decide_eq_true (by omega)
theorem entT_eq (z : Nat) (x1 : Int32) (c_read : (Nat → Int32)) (c_tape : (Nat → Int32)) (c_size : Int32) (c_from : Int32) (c_next : Int32) (c_token : Int32) (c_value : Int32) (c_fault : Int32) (c_number : Int32) : F10_entryTold z x1 c_read c_tape c_size c_from c_next c_token c_value c_fault c_number = (((F10_splitTold z x1 (8 : Int32) (7 : Int32) (8 : Int32) c_read c_tape c_size c_from c_next c_token c_value c_fault).bind (fun v8 => if v8.1 = 0 then ((some ((0 : Int32), v8.2.1, v8.2.2.1, v8.2.2.2.1, v8.2.2.2.2.1, v8.2.2.2.2.2.1, v8.2.2.2.2.2.2, c_number))) else (((F10_isWord z (119 : Int32) (101 : Int32) (105 : Int32) (103 : Int32) (104 : Int32) (116 : Int32) c_tape c_size v8.2.2.1 v8.2.2.2.1 v8.2.2.2.2.1).bind (fun v29 => if v29 = 0 then (((F10_bad (1 : Int32) v8.2.2.1 v8.2.2.2.2.2.2).bind (fun v37 => (xg (xbo v37.1) (some (v37.1, v8.2.1, v8.2.2.1, v8.2.2.2.1, v8.2.2.2.2.1, v8.2.2.2.2.2.1, v37.2, c_number)))))) else (((F10_go z c_tape c_size v8.2.2.1 v8.2.2.2.1 v8.2.2.2.2.1 v8.2.2.2.2.2.1).bind (fun v42 => ((F10_numberIn z (1 : Int32) (99 : Int32) c_tape c_size v42.1 v42.2.1 v42.2.2.1 v42.2.2.2 v8.2.2.2.2.2.2 c_number).bind (fun v49 => ((F10_at x1 (16 : Int32)).bind (fun v60 => ((F10_at x1 (7 : Int32)).bind (fun v70 => xg (xin v70 56) (xg (xin ((v60 + (v8.2.1 (xn v70))) - (1 : Int32)) 56) ((xg (xbo v49.1) (some (v49.1, (upd v8.2.1 (xn ((v60 + (v8.2.1 (xn v70))) - (1 : Int32))) v49.2.2.2.2.2.2), v49.2.1, v49.2.2.1, v49.2.2.2.1, v49.2.2.2.2.1, v49.2.2.2.2.2.1, v49.2.2.2.2.2.2))))))))))))))))))) : Option (Int32 × (Nat → Int32) × Int32 × Int32 × Int32 × Int32 × Int32 × Int32)) := by
  unfold F10_entryTold
  simp only [xgQ dq00, xgQ dq0, xgQ dq1, xgQ dq10]
theorem planL_eq (z : Nat) (c_read : (Nat → Int32)) (c_tape : (Nat → Int32)) (c_size : Int32) (c_from : Int32) (c_next : Int32) (c_token : Int32) (c_value : Int32) (c_fault : Int32) (c_number : Int32) : F10_planLine z c_read c_tape c_size c_from c_next c_token c_value c_fault c_number = (((F10_go z c_tape c_size c_from c_next c_token c_value).bind (fun v1 => ((F10_numberIn z (0 : Int32) (1 : Int32) c_tape c_size v1.1 v1.2.1 v1.2.2.1 v1.2.2.2 c_fault c_number).bind (fun v7 => if v7.1 = 0 then ((some ((0 : Int32), c_read, v7.2.1, v7.2.2.1, v7.2.2.2.1, v7.2.2.2.2.1, v7.2.2.2.2.2.1, v7.2.2.2.2.2.2))) else (((F10_at v7.2.2.2.2.2.2 (7 : Int32)).bind (fun v27 => xg (xin v27 56) (((F10_entryTold z v7.2.2.2.2.2.2 (upd c_read (xn v27) (0 : Int32)) c_tape c_size v7.2.1 v7.2.2.1 v7.2.2.2.1 v7.2.2.2.2.1 v7.2.2.2.2.2.1 v7.2.2.2.2.2.2).bind (fun v34 => F10_planLine_b38 z z v7.2.2.2.2.2.2 v34.1 v34.2.1 c_tape c_size v34.2.2.1 v34.2.2.2.1 v34.2.2.2.2.1 v34.2.2.2.2.2.1 v34.2.2.2.2.2.2.1 v34.2.2.2.2.2.2.2 ((0 + 1)))))))))))) : Option (Int32 × (Nat → Int32) × Int32 × Int32 × Int32 × Int32 × Int32 × Int32)) := rfl
theorem lineL_eq (z : Nat) (c_read : (Nat → Int32)) (c_tape : (Nat → Int32)) (c_size : Int32) (c_from : Int32) (c_next : Int32) (c_token : Int32) (c_value : Int32) (c_fault : Int32) (c_number : Int32) : F10_line z c_read c_tape c_size c_from c_next c_token c_value c_fault c_number = (((F10_isWord z (102 : Int32) (105 : Int32) (101 : Int32) (108 : Int32) (100 : Int32) (115 : Int32) c_tape c_size c_from c_next c_token).bind (fun v13 => if v13 = 0 then (((F10_isWord z (102 : Int32) (111 : Int32) (114 : Int32) (99 : Int32) (101 : Int32) (115 : Int32) c_tape c_size c_from c_next c_token).bind (fun v37 => if v37 = 0 then (((F10_isWord z (116 : Int32) (105 : Int32) (101 : Int32) (115 : Int32) (0 : Int32) (0 : Int32) c_tape c_size c_from c_next c_token).bind (fun v59 => if v59 = 0 then (((F10_isWord z (98 : Int32) (111 : Int32) (111 : Int32) (107 : Int32) (0 : Int32) (0 : Int32) c_tape c_size c_from c_next c_token).bind (fun v81 => if v81 = 0 then (((F10_isWord z (112 : Int32) (108 : Int32) (97 : Int32) (110 : Int32) (0 : Int32) (0 : Int32) c_tape c_size c_from c_next c_token).bind (fun v103 => if v103 = 0 then (((F10_bad (1 : Int32) c_from c_fault).bind (fun v118 => (xg (xbo v118.1) (some (v118.1, c_read, c_from, c_next, c_token, c_value, v118.2, c_number)))))) else (((F10_planLine z c_read c_tape c_size c_from c_next c_token c_value c_fault c_number).bind (fun v110 => (xg (xbo v110.1) (some (v110.1, v110.2.1, v110.2.2.1, v110.2.2.2.1, v110.2.2.2.2.1, v110.2.2.2.2.2.1, v110.2.2.2.2.2.2.1, v110.2.2.2.2.2.2.2))))))))) else (((F10_bookLine z c_read c_tape c_size c_from c_next c_token c_value c_fault c_number).bind (fun v88 => (xg (xbo v88.1) (some (v88.1, v88.2.1, v88.2.2.1, v88.2.2.2.1, v88.2.2.2.2.1, v88.2.2.2.2.2.1, v88.2.2.2.2.2.2.1, v88.2.2.2.2.2.2.2))))))))) else (((F10_tiesLine z c_read c_tape c_size c_from c_next c_token c_value c_fault c_number).bind (fun v66 => (xg (xbo v66.1) (some (v66.1, v66.2.1, v66.2.2.1, v66.2.2.2.1, v66.2.2.2.2.1, v66.2.2.2.2.2.1, v66.2.2.2.2.2.2.1, v66.2.2.2.2.2.2.2))))))))) else (((F10_forcesLine z c_read c_tape c_size c_from c_next c_token c_value c_fault c_number).bind (fun v44 => (xg (xbo v44.1) (some (v44.1, v44.2.1, v44.2.2.1, v44.2.2.2.1, v44.2.2.2.2.1, v44.2.2.2.2.2.1, v44.2.2.2.2.2.2.1, v44.2.2.2.2.2.2.2))))))))) else (((F10_fieldsLine z c_read c_tape c_size c_from c_next c_token c_value c_fault c_number).bind (fun v20 => (xg (xbo v20.1) (some (v20.1, v20.2.1, v20.2.2.1, v20.2.2.2.1, v20.2.2.2.2.1, v20.2.2.2.2.2.1, v20.2.2.2.2.2.2.1, v20.2.2.2.2.2.2.2)))))))) : Option (Int32 × (Nat → Int32) × Int32 × Int32 × Int32 × Int32 × Int32 × Int32)) := rfl
def wW : List Nat := [119, 101, 105, 103, 104, 116]
theorem wW7 {z n p : Nat} (hz : 1000 ≤ z) {bs : Nat → Nat} {bytes tape : Nat → Int32} (hB : TB n bs bytes tape) {kind from' behind : Int32} (hC : TCk bs n p kind from' behind) : (wrd bs n p wW → F7_isWord z 5 bytes kind from' behind = some 1) ∧ (¬ wrd bs n p wW → F7_isWord z 5 bytes kind from' behind = some 0) := isWord7 hz hB hC (w := wW) rfl rfl (by decide) (by decide)
theorem wW10 {z n p : Nat} (hz : 1000 ≤ z) {bs : Nat → Nat} {bytes tape : Nat → Int32} (hB : TB n bs bytes tape) {from' next token value : Int32} (hR : TRk bs n p from' next token value) : (wrd bs n p wW → F10_isWord z 119 101 105 103 104 116 tape (i3 n) from' next token = some 1) ∧ (¬ wrd bs n p wW → F10_isWord z 119 101 105 103 104 116 tape (i3 n) from' next token = some 0) := isWord10 hz hB hR (w := wW) (by decide) (by decide) (by decide)
theorem plan_loop {z n K s : Nat} (hz : 1000 ≤ z) {bs : Nat → Nat} {bytes tape : Nat → Int32} (hB : TB n bs bytes tape) (hs : s < 2) {W : Nat → Int} {t : Int} {fo : Nat → Nat} {fields ties : Int32} {worth forces many : Nat → Int32} {codes : Nat → Nat → Int32} (hX : SX K W t fo fields ties worth forces many codes) {bN : Nat → Nat} {bI : Nat → Nat → Nat} {bList : Nat → Nat → Int32} {bMany : Nat → Int32} (pDrawn : Nat → Nat → Int32) (pTurns : Nat → Int32) (fault : Int32) : ∀ (rem w w' c p p0 : Nat) (pN : Nat → Nat) (pI : Nat → Nat → Nat) (pW : Nat → Nat → Int) (pList pWei : Nat → Nat → Int32) (pMany pAll read : Nat → Int32) (kind from' behind fromR next token value number : Int32), c + rem = 8 → rem + 1 ≤ w → rem + 1 ≤ w' → p0 ≤ p → TCk bs n p kind from' behind → TRk bs n p fromR next token value → TD K W t fo read → BKr K fo bN bI bList bMany read → PLr K fo pN pI pW pList pWei pMany pAll read → pN s = c → PLo bs n p0 fields ties worth forces many codes bList bMany (F8_readPlan_b45 z (i3 s) s (i3 c) fault bytes kind from' behind (i3 n) fields many codes pList pWei pDrawn pMany pAll pTurns (fun q0 q1 q2 q3 q4 q5 q6 q7 q8 q9 q10 q11 q12 q13 q14 q15 q16 q17 => F8_readPlan_b30 z w q0 q1 q2 q3 q4 q5 q6 q7 q8 q9 q10 q11 q12 q13 q14 q15 q16 q17)) ((F10_entryTold z (i3 s) read tape (i3 n) fromR next token value 0 number).bind (fun v => F10_planLine_b38 z w' (i3 s) v.1 v.2.1 tape (i3 n) v.2.2.1 v.2.2.2.1 v.2.2.2.2.1 v.2.2.2.2.2.1 v.2.2.2.2.2.2.1 v.2.2.2.2.2.2.2 (c + 1))) := by
  intro rem
  induction rem with
  | zero =>
    intro w w' c p p0 pN pI pW pList pWei pMany pAll read kind from' behind fromR next token value number hc hw hw' hp0 hC hR hT hBk hPl hpc
    obtain ⟨w', rfl⟩ : ∃ v, w' = v + 1 := ⟨w' - 1, by omega⟩
    obtain rfl : c = 8 := by omega
    obtain ⟨d1, d2, d3, d4, d5, d6⟩ := hPl s hs
    rw [hpc] at d1 d2 d3 d4 d5 d6
    have n0 := ns_bd hX.1 (hX.2.1 s hs)
    have blt : Nat.blt s 2 = true := by rw [Nat.blt_eq]; exact hs
    have s3 := spc_bd bs hC.1
    have n3 := hB.1
    have f1 := (tk_facts bs hC.1).1
    have b38no : ∀ (read1 : Nat → Int32) (a1 a2 a3 a4 a5 a6 : Int32), F10_planLine_b38 z (w' + 1) (i3 s) 0 read1 tape (i3 n) a1 a2 a3 a4 a5 a6 (8 + 1) = some (0, read1, a1, a2, a3, a4, a5, a6) := by
      intro read1 a1 a2 a3 a4 a5 a6
      unfold F10_planLine_b38
      rw [if_pos rfl, decide_eq_true (show 8 + 1 ≤ 9 by omega)]
      rfl
    unfold F8_readPlan_b45 F8_readPlan_b56 F8_readPlan_b85 F8_readPlan_b97
    rw [entT_eq]
    rw [blt, hC.2.2.1, refuse_ok (C := 1) (c := 1) rfl, refuse_ok (C := 3) (c := 3) rfl, refuse_ok (C := 4) (c := 4) rfl, ← hC.2.2.1]
    rw [xgT]
    rcases splitTold_ok hz hB hC hR hX hT hs (A := 7) (B := 8) (M := 8) (a := 7) (b := 8) (m := 8) (cN := 8) rfl rfl rfl (by omega) (by omega) (by omega) d1 (I := pI s) d3 (fun k hk => ⟨(d5 k hk).1, (d5 k hk).2.2.2.2.2.1⟩) with ⟨k2, e10⟩ | ⟨k2, e9, e10⟩ | ⟨k2, i, hi, e9, ⟨qd, e10⟩ | ⟨qd, qm, e10⟩ | ⟨qd, qm, e10⟩⟩
    · rw [e10, if_neg (show ¬ kind = 2 by rw [hC.2.1, i3_l2, i3_eq (by omega) (by omega) (by omega) (by omega)]; omega)]
      simp only [Option.bind_some, if_true, b38no]
      exact Or.inr ⟨_, _, _, by omega, by omega, rfl, rfl, rfl, rfl, rfl, rfl⟩
    · rw [e10, if_pos (show kind = 2 by rw [hC.2.1, k2]; rfl), e9]
      simp only [Option.bind_some, if_true, b38no]
      exact Or.inr ⟨_, _, _, by omega, by omega, rfl, rfl, rfl, rfl, rfl, rfl⟩
    · obtain ⟨r, hr⟩ := plr_ex (pI s) 8 i
      rw [e10, if_pos (show kind = 2 by rw [hC.2.1, k2]; rfl), e9]
      simp only [Option.bind_some, if_true, b38no]
      rw [if_neg (show ¬ i3 (i : Int) = -1 by rw [i3_m1, i3_eq (by omega) (by omega) (by omega) (by omega)]; omega), d2, F3_placeOf_ok (by omega) d1 (fun k hk => ⟨(d5 k hk).2.2.2.1, by have := (d5 k hk).1; omega⟩) (by omega) hr]
      simp only [Option.bind_some]
      rcases hr with ⟨k, hk, ek, er, _⟩ | ⟨hn, er⟩
      · rw [if_neg (show ¬ r = -1 by rw [er, i3_m1, i3_eq (by omega) (by omega) (by omega) (by omega)]; omega)]
        exact Or.inr ⟨_, _, _, by omega, by omega, rfl, rfl, rfl, rfl, rfl, rfl⟩
      · obtain ⟨k, hk, ek⟩ := qd
        exact absurd ek (hn k hk)
    · obtain ⟨r, hr⟩ := plr_ex (pI s) 8 i
      rw [e10, if_pos (show kind = 2 by rw [hC.2.1, k2]; rfl), e9]
      simp only [Option.bind_some, if_true, b38no]
      rw [if_neg (show ¬ i3 (i : Int) = -1 by rw [i3_m1, i3_eq (by omega) (by omega) (by omega) (by omega)]; omega), d2, F3_placeOf_ok (by omega) d1 (fun k hk => ⟨(d5 k hk).2.2.2.1, by have := (d5 k hk).1; omega⟩) (by omega) hr]
      simp only [Option.bind_some]
      rcases hr with ⟨k, hk, ek, er, _⟩ | ⟨hn, er⟩
      · exact absurd ⟨k, hk, ek⟩ qd
      · rw [if_pos er, if_neg (show ¬ i3 ((8 : Nat) : Int) < 8 by decide)]
        exact Or.inr ⟨_, _, _, by omega, by omega, rfl, rfl, rfl, rfl, rfl, rfl⟩
    · omega
  | succ rem ih =>
    intro w w' c p p0 pN pI pW pList pWei pMany pAll read kind from' behind fromR next token value number hc hw hw' hp0 hC hR hT hBk hPl hpc
    obtain ⟨w, rfl⟩ : ∃ v, w = v + 1 := ⟨w - 1, by omega⟩
    obtain ⟨w', rfl⟩ : ∃ v, w' = v + 1 := ⟨w' - 1, by omega⟩
    obtain ⟨d1, d2, d3, d4, d5, d6⟩ := hPl s hs
    rw [hpc] at d1 d2 d3 d4 d5 d6
    have n0 := ns_bd hX.1 (hX.2.1 s hs)
    have blt : Nat.blt s 2 = true := by rw [Nat.blt_eq]; exact hs
    have s3 := spc_bd bs hC.1
    have n3 := hB.1
    have tf := tk_facts bs hC.1
    have f1 := tf.1
    have b38no : ∀ (read1 : Nat → Int32) (a1 a2 a3 a4 a5 a6 : Int32), F10_planLine_b38 z (w' + 1) (i3 s) 0 read1 tape (i3 n) a1 a2 a3 a4 a5 a6 (c + 1) = some (0, read1, a1, a2, a3, a4, a5, a6) := by
      intro read1 a1 a2 a3 a4 a5 a6
      unfold F10_planLine_b38
      rw [if_pos rfl, decide_eq_true (show c + 1 ≤ 9 by omega)]
      rfl
    unfold F8_readPlan_b45 F8_readPlan_b56 F8_readPlan_b85 F8_readPlan_b97
    rw [entT_eq]
    rw [blt, hC.2.2.1, refuse_ok (C := 1) (c := 1) rfl, refuse_ok (C := 3) (c := 3) rfl, refuse_ok (C := 4) (c := 4) rfl, ← hC.2.2.1]
    rw [xgT]
    rcases splitTold_ok hz hB hC hR hX hT hs (A := 7) (B := 8) (M := 8) (a := 7) (b := 8) (m := 8) (cN := c) rfl rfl rfl (by omega) (by omega) (by omega) d1 (I := pI s) d3 (fun k hk => ⟨(d5 k hk).1, (d5 k hk).2.2.2.2.2.1⟩) with ⟨k2, e10⟩ | ⟨k2, e9, e10⟩ | ⟨k2, i, hi, e9, ⟨qd, e10⟩ | ⟨qd, qm, e10⟩ | ⟨qd, qm, fR, xR, kR, vR, e10, hR2⟩⟩
    · rw [e10, if_neg (show ¬ kind = 2 by rw [hC.2.1, i3_l2, i3_eq (by omega) (by omega) (by omega) (by omega)]; omega)]
      simp only [Option.bind_some, if_true, b38no]
      exact Or.inr ⟨_, _, _, by omega, by omega, rfl, rfl, rfl, rfl, rfl, rfl⟩
    · rw [e10, if_pos (show kind = 2 by rw [hC.2.1, k2]; rfl), e9]
      simp only [Option.bind_some, if_true, b38no]
      exact Or.inr ⟨_, _, _, by omega, by omega, rfl, rfl, rfl, rfl, rfl, rfl⟩
    · obtain ⟨r, hr⟩ := plr_ex (pI s) c i
      rw [e10, if_pos (show kind = 2 by rw [hC.2.1, k2]; rfl), e9]
      simp only [Option.bind_some, if_true, b38no]
      rw [if_neg (show ¬ i3 (i : Int) = -1 by rw [i3_m1, i3_eq (by omega) (by omega) (by omega) (by omega)]; omega), d2, F3_placeOf_ok (by omega) d1 (fun k hk => ⟨(d5 k hk).2.2.2.1, by have := (d5 k hk).1; omega⟩) (by omega) hr]
      simp only [Option.bind_some]
      rcases hr with ⟨k, hk, ek, er, _⟩ | ⟨hn, er⟩
      · rw [if_neg (show ¬ r = -1 by rw [er, i3_m1, i3_eq (by omega) (by omega) (by omega) (by omega)]; omega)]
        exact Or.inr ⟨_, _, _, by omega, by omega, rfl, rfl, rfl, rfl, rfl, rfl⟩
      · obtain ⟨k, hk, ek⟩ := qd
        exact absurd ek (hn k hk)
    · omega
    · obtain ⟨r, hr⟩ := plr_ex (pI s) c i
      obtain ⟨kC, fC, bC, es, hC2⟩ := TC_step hz hB hC (by omega)
      have tf2 := tk_facts bs hC2.1
      have s32 := spc_bd bs hC2.1
      have hr1 : r = -1 := by
        rcases hr with ⟨k, hk, ek, er, _⟩ | ⟨hn, er⟩
        · exact absurd ⟨k, hk, ek⟩ qd
        · exact er
      rw [e10, if_pos (show kind = 2 by rw [hC.2.1, k2]; rfl), e9]
      simp only [Option.bind_some]
      rw [if_neg (show ¬ i3 (i : Int) = -1 by rw [i3_m1, i3_eq (by omega) (by omega) (by omega) (by omega)]; omega), d2, F3_placeOf_ok (by omega) d1 (fun k hk => ⟨(d5 k hk).2.2.2.1, by have := (d5 k hk).1; omega⟩) (by omega) hr]
      simp only [Option.bind_some]
      rw [if_pos hr1, if_pos (show i3 (c : Int) < 8 by rw [i3_l8, i3_lt (by omega) (by omega) (by omega) (by omega)]; omega), es, if_neg n10]
      simp only [Option.bind_some]
      unfold F8_readWeight
      by_cases qw : wrd bs n (tkN bs n p) wW
      · obtain ⟨kC3, fC3, bC3, es3, hC3⟩ := TC_step hz hB hC2 (by have := qw.1; omega)
        obtain ⟨fR3, xR3, kR3, vR3, eg3, hR3⟩ := TR_go hz hB hR2
        have tf3 := tk_facts bs hC3.1
        have s33 := spc_bd bs hC3.1
        rw [(wW7 hz hB hC2).1 qw, (wW10 hz hB hR2).1 qw]
        simp only [Option.bind_some]
        rw [if_neg n10, if_neg n10, es3, eg3]
        simp only [Option.bind_some]
        rw [show F10_at (i3 s) 16 = some (i3 ((8 + 24 * s + 16 : Nat) : Int)) from F10_at_ok s 16, show F10_at (i3 s) 7 = some (i3 ((8 + 24 * s + 7 : Nat) : Int)) from F10_at_ok s 7]
        have e7 : upd (upd read (8 + 24 * s + 8 + c) (i3 (cd K (fo s) i : Nat))) (8 + 24 * s + 7) (i3 ((c + 1 : Nat) : Int)) (8 + 24 * s + 7) = i3 ((c + 1 : Nat) : Int) := upd_same _ _ _
        have e16 : i3 ((8 + 24 * s + 16 : Nat) : Int) + i3 ((c + 1 : Nat) : Int) - 1 = i3 ((8 + 24 * s + 16 + c : Nat) : Int) := by
          rw [i3_l1, i3_add, i3_sub]; congr 1; omega
        rcases num_both hz hB hC3 hR3 (LO := 1) (HI := 99) (lo := 1) (hi := 99) rfl rfl (by omega) (by omega) (by omega) (by omega) fault number with ⟨q1, q2, q3, q4, q5, ⟨kC4, fC4, bC4, q6, hC4⟩, fR4, xR4, kR4, vR4, q7, hR4⟩ | ⟨e, num', q1, q2, q3, q4⟩
        · rw [q4, q7]
          simp (disch := omega) only [Option.bind_some, xg_in, i3_xnN]
          rw [e7, e16]
          simp (disch := omega) only [xg_in, i3_xnN]
          rw [show xbo 1 = true from rfl, xgT, xgT]
          simp only [Option.bind_some]
          rw [if_neg n10, q5]
          simp only [Option.bind_some]
          unfold F3_put
          rw [if_neg (show ¬ (8 : Int32) ≤ i3 (c : Int) by rw [i3_l8, i3_le (by omega) (by omega) (by omega) (by omega)]; omega)]
          simp (disch := omega) only [Option.bind_some, xg_in, i3_xnN]
          rw [q6, show i3 (c : Int) + 1 = i3 ((c + 1 : Nat) : Int) from by rw [i3_l1, i3_add]; rfl, d4, i3_add]
          simp only [Option.bind_some]
          have off : ∀ j, ¬ (8 + 24 * s + 7 ≤ j ∧ j < 8 + 24 * s + 24) → upd (upd (upd read (8 + 24 * s + 8 + c) (i3 (cd K (fo s) i : Nat))) (8 + 24 * s + 7) (i3 ((c + 1 : Nat) : Int))) (8 + 24 * s + 16 + c) (i3 (vlu bs n (tkN bs n (tkN bs n p)))) j = read j := fun j hj => by
            rw [upd_diff _ _ (by omega), upd_diff _ _ (by omega), upd_diff _ _ (by omega)]
          have hPl' := PLr_put hPl hs off (n := c + 1) (I := fun k => if k = c then i else pI s k) (V := fun k => if k = c then vlu bs n (tkN bs n (tkN bs n p)) else pW s k) (list := upd (pList s) c (i3 (i : Nat))) (wei := upd (pWei s) c (i3 (vlu bs n (tkN bs n (tkN bs n p))))) (mm := i3 ((c + 1 : Nat) : Int)) (aa := i3 (sm c (pW s) + vlu bs n (tkN bs n (tkN bs n p)))) (by omega) rfl (by rw [upd_diff _ _ (by omega), upd_same]) (by
            show _ = i3 (sm c (fun k => if k = c then vlu bs n (tkN bs n (tkN bs n p)) else pW s k) + (if c = c then vlu bs n (tkN bs n (tkN bs n p)) else pW s c))
            rw [if_pos rfl, sm_congr (g := pW s) (fun k hk => if_neg (by omega))]) (fun k hk => by
            show (if k = c then i else pI s k) < _ ∧ 1 ≤ (if k = c then vlu bs n (tkN bs n (tkN bs n p)) else pW s k) ∧ (if k = c then vlu bs n (tkN bs n (tkN bs n p)) else pW s k) ≤ 99 ∧ _ = i3 ((if k = c then i else pI s k : Nat) : Int) ∧ _ = i3 (if k = c then vlu bs n (tkN bs n (tkN bs n p)) else pW s k) ∧ _ = i3 (cd K (fo s) (if k = c then i else pI s k) : Nat) ∧ _ = i3 (if k = c then vlu bs n (tkN bs n (tkN bs n p)) else pW s k)
            by_cases e : k = c
            · subst e
              simp only [if_true]
              refine ⟨hi, q2, q3, upd_same _ _ _, upd_same _ _ _, ?_, upd_same _ _ _⟩
              rw [upd_diff _ _ (by omega), upd_diff _ _ (by omega), upd_same]
            · simp only [if_neg e]
              obtain ⟨a1, a2, a3, a4, a5, a6, a7⟩ := d5 k (by omega)
              refine ⟨a1, a2, a3, (upd_diff _ _ e).trans a4, (upd_diff _ _ e).trans a5, ?_, ?_⟩
              · rw [upd_diff _ _ (by omega), upd_diff _ _ (by omega), upd_diff _ _ (by omega)]; exact a6
              · rw [upd_diff _ _ (by omega), upd_diff _ _ (by omega), upd_diff _ _ (by omega)]; exact a7) (fun k j hk hj hkj => by
            show (if k = c then i else pI s k) ≠ (if j = c then i else pI s j)
            by_cases e : k = c
            · rw [if_pos e, if_neg (by omega)]
              exact fun h => qd ⟨j, by omega, h.symm⟩
            · rw [if_neg e]
              by_cases e' : j = c
              · rw [if_pos e']
                exact fun h => qd ⟨k, by omega, h⟩
              · rw [if_neg e']
                exact d6 k j (by omega) (by omega) hkj)
          have hT' := TD_off hX.1.2.1 hT (fun j hj => off j (by omega))
          have hBk' := BKr_off hBk hs off
          have tf4 := (tk_facts bs hC4.1).1
          unfold F8_readPlan_b30 F10_planLine_b38
          rw [blt, if_neg (show ¬ i3 ((c + 1 : Nat) : Int) = 0 by rw [i3_l0, i3_eq (by omega) (by omega) (by omega) (by omega)]; omega), if_neg n10]
          by_cases k2' : tkK bs n (tkN bs n (tkN bs n (tkN bs n p))) = 2
          · rw [if_pos (show kC4 = 2 by rw [hC4.2.1, k2']; rfl), if_pos (show kR4 = 2 by rw [hR4.2.2.2.1, k2']; rfl), decide_eq_true (show c + 1 + 1 ≤ 9 by omega)]
            exact ih w w' (c + 1) _ p0 _ _ _ _ _ _ _ _ _ _ _ _ _ _ _ _ (by omega) (by omega) (by omega) (by omega) hC4 hR4 hT' hBk' hPl' (va_up_self _ _ _)
          · rw [if_neg (show ¬ kC4 = 2 by rw [hC4.2.1, i3_l2, i3_eq (by omega) (by omega) (by omega) (by omega)]; omega), if_neg (show ¬ kR4 = 2 by rw [hR4.2.2.2.1, i3_l2, i3_eq (by omega) (by omega) (by omega) (by omega)]; omega), decide_eq_true (show c + 1 ≤ 9 by omega)]
            refine Or.inl ⟨_, _, _, rfl, rfl, rfl, hC4, ⟨rfl, hR4, rfl⟩, ?_, ?_⟩
            · have := tf.2.2.2.1 (by omega)
              omega
            · exact ⟨K, W, t, fo, bN, bI, _, _, _, hX, hT', hBk', hPl'⟩
        · rw [q3, q4]
          simp (disch := omega) only [Option.bind_some, xg_in, i3_xnN]
          rw [e7, e16]
          simp (disch := omega) only [xg_in, i3_xnN]
          rw [show xbo 0 = true from rfl, xgT, xgT]
          simp only [Option.bind_some, if_true, b38no]
          exact Or.inr ⟨e, _, _, q1, q2, rfl, rfl, rfl, rfl, rfl, rfl⟩
      · rw [(wW7 hz hB hC2).2 qw, (wW10 hz hB hR2).2 qw, hC2.2.2.1, hR2.2.1, refuse_ok (C := 1) (c := 1) rfl, bad_ok (C := 1) (c := 1) rfl]
        simp only [Option.bind_some, if_true]
        rw [show xbo 0 = true from rfl, xgT, xgT]
        simp only [Option.bind_some, if_true, b38no]
        exact Or.inr ⟨_, _, _, by omega, by omega, rfl, rfl, rfl, rfl, rfl, rfl⟩
theorem plan_line {z n p : Nat} (hz : 1000 ≤ z) {bs : Nat → Nat} {bytes tape : Nat → Int32} (hB : TB n bs bytes tape) {kind from' behind : Int32} (hC : TCk bs n p kind from' behind) {fromR next token value : Int32} (hR : TRk bs n p fromR next token value) (h1 : tkK bs n p = 1) {fields ties : Int32} {worth forces many : Nat → Int32} {codes bList : Nat → Nat → Int32} {bMany : Nat → Int32} {pList pWei : Nat → Nat → Int32} {pMany pAll read : Nat → Int32} (hS : RS fields ties worth forces many codes bList bMany pList pWei pMany pAll read) (pDrawn : Nat → Nat → Int32) (pTurns : Nat → Int32) (fault number : Int32) : PLo bs n (tkN bs n p) fields ties worth forces many codes bList bMany (F8_readPlan z fault bytes kind from' behind (i3 n) fields many codes pList pWei pDrawn pMany pAll pTurns) (F10_planLine z read tape (i3 n) fromR next token value 0 number) := by
  obtain ⟨k1, f1, b1, e1, hC1⟩ := TC_step hz hB hC (by omega)
  obtain ⟨g1, x1, t1, v1, e2, hR1⟩ := TR_go hz hB hR
  obtain ⟨K, W, t, fo, bN, bI, pN, pI, pW, hX, hT, hBk, hPl⟩ := hS
  unfold F8_readPlan F8_readSide
  rw [planL_eq, e1, e2]
  simp only [Option.bind_some]
  rcases num_both hz hB hC1 hR1 (LO := 0) (HI := 1) (lo := 0) (hi := 1) rfl rfl (by omega) (by omega) (by omega) (by omega) fault number with ⟨q1, q2, q3, q4, q5, ⟨kC, fC, bC, q6, hC2⟩, fR, xR, kR, vR, q7, hR2⟩ | ⟨e, num', q1, q2, q3, q4⟩
  · obtain ⟨s, es⟩ : ∃ s : Nat, vlu bs n (tkN bs n p) = s := ⟨(vlu bs n (tkN bs n p)).toNat, by omega⟩
    have hs : s < 2 := by omega
    rw [es] at q5 q7
    have tf := tk_facts bs hC1.1
    have sb := spc_bd bs hC1.1
    have blt : Nat.blt s 2 = true := by rw [Nat.blt_eq]; exact hs
    obtain ⟨dr', edr, hdr⟩ := F3_restart_ok (z := z) (by omega) (pDrawn s) (pTurns s)
    rw [q4, q7]
    simp only [Option.bind_some]
    rw [if_neg n10, if_neg n10, q5]
    simp only [Option.bind_some]
    rw [q6]
    simp only [Option.bind_some]
    rw [isSide9 (s : Int) (by omega) (by omega), if_pos (show (s : Int) = 0 ∨ (s : Int) = 1 by omega), show F10_at (i3 s) 7 = some (i3 ((8 + 24 * s + 7 : Nat) : Int)) from F10_at_ok s 7]
    unfold F3_clear
    simp (disch := omega) only [Option.bind_some, xg_in, i3_xnN]
    rw [if_neg n10, edr]
    simp only [Option.bind_some]
    have off : ∀ j, ¬ (8 + 24 * s + 7 ≤ j ∧ j < 8 + 24 * s + 24) → upd read (8 + 24 * s + 7) 0 j = read j := fun j hj => upd_diff _ _ (by omega)
    have hPl' := PLr_put hPl hs off (n := 0) (I := pI s) (V := pW s) (list := pList s) (wei := pWei s) (mm := 0) (aa := 0) (by omega) rfl (upd_same _ _ _) rfl (fun k hk => absurd hk (Nat.not_lt_zero k)) (fun k _ hk => absurd hk (Nat.not_lt_zero k))
    have eU : ∀ (g : Nat → Nat → Int32), va_up g s (g s) = g := fun g => by
      funext j
      by_cases c : j = s
      · subst c; rw [va_up_self]
      · rw [va_up_ne _ _ c]
    rw [eU, eU] at hPl'
    obtain ⟨y, hy⟩ : ∃ y, z = y + 1 := ⟨z - 1, by omega⟩
    have lp := plan_loop (z := z) (n := n) hz hB hs hX (bN := bN) (bI := bI) (bList := bList) (bMany := bMany) (va_up pDrawn s dr') (va_up pTurns s 0) fault 8 y z 0 (tkN bs n (tkN bs n p)) (tkN bs n p) _ _ _ _ _ _ _ _ _ _ _ _ _ _ _ (i3 (s : Int)) (by omega) (by omega) (by omega) (by have := tf.2.2.2.1 (by omega); omega) hC2 hR2 (TD_off hX.1.2.1 hT (fun j hj => off j (by omega))) (BKr_off hBk hs off) hPl' (va_up_self _ _ _)
    have e30 : F8_readPlan_b30 z z (i3 s) s 0 fault bytes kC fC bC (i3 n) fields many codes pList pWei (va_up pDrawn s dr') (va_up pMany s 0) (va_up pAll s 0) (va_up pTurns s 0) = F8_readPlan_b45 z (i3 s) s (i3 ((0 : Nat) : Int)) fault bytes kC fC bC (i3 n) fields many codes pList pWei (va_up pDrawn s dr') (va_up pMany s 0) (va_up pAll s 0) (va_up pTurns s 0) (fun q0 q1 q2 q3 q4 q5 q6 q7 q8 q9 q10 q11 q12 q13 q14 q15 q16 q17 => F8_readPlan_b30 z y q0 q1 q2 q3 q4 q5 q6 q7 q8 q9 q10 q11 q12 q13 q14 q15 q16 q17) := by
      have : F8_readPlan_b30 z (y + 1) (i3 s) s 0 fault bytes kC fC bC (i3 n) fields many codes pList pWei (va_up pDrawn s dr') (va_up pMany s 0) (va_up pAll s 0) (va_up pTurns s 0) = F8_readPlan_b45 z (i3 s) s (i3 ((0 : Nat) : Int)) fault bytes kC fC bC (i3 n) fields many codes pList pWei (va_up pDrawn s dr') (va_up pMany s 0) (va_up pAll s 0) (va_up pTurns s 0) (fun q0 q1 q2 q3 q4 q5 q6 q7 q8 q9 q10 q11 q12 q13 q14 q15 q16 q17 => F8_readPlan_b30 z y q0 q1 q2 q3 q4 q5 q6 q7 q8 q9 q10 q11 q12 q13 q14 q15 q16 q17) := by
        conv => lhs; unfold F8_readPlan_b30
        rw [blt, if_pos rfl]
        rfl
      rw [← this, ← hy]
    rw [e30]
    exact lp
  · rw [q3, q4]
    exact Or.inr ⟨e, _, _, q1, q2, rfl, rfl, rfl, rfl, rfl, rfl⟩
