/-! ===== the text: the line of a book ===== -/
theorem splitTold_ok {z n p K s a b m cN : Nat} (hz : 1000 ≤ z) {bs : Nat → Nat} {bytes tape : Nat → Int32} (hB : TB n bs bytes tape) {kind from' behind : Int32} (hC : TCk bs n p kind from' behind) {fromR next token value : Int32} (hR : TRk bs n p fromR next token value) {W : Nat → Int} {t : Int} {fo : Nat → Nat} {fields ties : Int32} {worth forces many : Nat → Int32} {codes : Nat → Nat → Int32} (hX : SX K W t fo fields ties worth forces many codes) {read : Nat → Int32} (hT : TD K W t fo read) (hs : s < 2) {A B M : Int32} (eA : A = i3 (a : Nat)) (eB : B = i3 (b : Nat)) (eM : M = i3 (m : Nat)) (hab : a < b) (hbm : b + m ≤ 24) (hm : m ≤ 8) (hcN : cN ≤ m) {I : Nat → Nat} (ha : read (8 + 24 * s + a) = i3 (cN : Nat)) (hI : ∀ k, k < cN → I k < ns K (fo s) ∧ read (8 + 24 * s + b + k) = i3 (cd K (fo s) (I k) : Nat)) :
    (tkK bs n p ≠ 2 ∧ F10_splitTold z (i3 s) B A M read tape (i3 n) fromR next token value 0 = some (0, read, fromR, next, token, value, i3 (8 * (spc bs n p : Int) + 1))) ∨
    (tkK bs n p = 2 ∧ F8_splitHere z (i3 s) bytes from' behind fields many codes = some (-1) ∧ F10_splitTold z (i3 s) B A M read tape (i3 n) fromR next token value 0 = some (0, read, fromR, next, token, value, i3 (8 * (spc bs n p : Int) + 3))) ∨
    (tkK bs n p = 2 ∧ ∃ i, i < ns K (fo s) ∧ F8_splitHere z (i3 s) bytes from' behind fields many codes = some (i3 (i : Nat)) ∧ (((∃ k, k < cN ∧ I k = i) ∧ F10_splitTold z (i3 s) B A M read tape (i3 n) fromR next token value 0 = some (0, read, fromR, next, token, value, i3 (8 * (spc bs n p : Int) + 3))) ∨
      ((¬ ∃ k, k < cN ∧ I k = i) ∧ cN = m ∧ F10_splitTold z (i3 s) B A M read tape (i3 n) fromR next token value 0 = some (0, read, fromR, next, token, value, i3 (8 * (spc bs n p : Int) + 4))) ∨
      ((¬ ∃ k, k < cN ∧ I k = i) ∧ cN < m ∧ ∃ f x k v, F10_splitTold z (i3 s) B A M read tape (i3 n) fromR next token value 0 = some (1, upd (upd read (8 + 24 * s + b + cN) (i3 (cd K (fo s) i : Nat))) (8 + 24 * s + a) (i3 ((cN + 1 : Nat) : Int)), f, x, k, v, 0) ∧ TRk bs n (tkN bs n p) f x k v))) := by
  subst eA eB eM
  have hV := hX.1
  have K4 := hV.2.1
  have f1 := (tk_facts bs hC.1).1
  have aa : F10_at (i3 s) (i3 (a : Nat)) = some (i3 ((8 + 24 * s + a : Nat) : Int)) := F10_at_ok s a
  have ab : F10_at (i3 s) (i3 (b : Nat)) = some (i3 ((8 + 24 * s + b : Nat) : Int)) := F10_at_ok s b
  have r2 := hR.2.1
  have r4 := hR.2.2.2.1
  unfold F10_splitTold F10_splitTold_b55
  by_cases k2 : tkK bs n p = 2
  · refine Or.inr ?_
    rw [if_pos (show token = 2 by rw [r4, k2]; rfl), aa, ab]
    rcases here_both hz hB hC hR k2 hX hT hs with ⟨i, hi, e9, e10⟩ | ⟨e9, e10⟩
    · refine Or.inr ⟨k2, i, hi, e9, ?_⟩
      have ci := cd_lt K4 hi
      rw [e10]
      simp (disch := omega) only [Option.bind_some, xg_in, i3_xnN]
      rw [if_neg (show ¬ i3 (cd K (fo s) i : Nat) = -1 by rw [i3_m1, i3_eq (by omega) (by omega) (by omega) (by omega)]; omega), ha]
      have hh := hasRead_ok (z := z) (base := 8 + 24 * s + b) (m := cN) hz (by omega) (f := fun k => cd K (fo s) (I k)) (read := read) (fun k hk => ⟨(hI k hk).2, by have := cd_lt K4 (hI k hk).1; omega⟩) (c := cd K (fo s) i) (by omega)
      by_cases qd : ∃ k, k < cN ∧ I k = i
      · refine Or.inl ⟨qd, ?_⟩
        obtain ⟨k, hk, ek⟩ := qd
        rw [hh.1 ⟨k, hk, by show cd K (fo s) (I k) = _; rw [ek]⟩, r2, bad_ok (C := 3) (c := 3) rfl]
        rfl
      · rw [hh.2 (fun ⟨k, hk, ek⟩ => qd ⟨k, hk, cd_inj (hI k hk).1 hi ek⟩)]
        simp only [Option.bind_some, if_true]
        by_cases qm : cN = m
        · refine Or.inr (Or.inl ⟨qd, qm, ?_⟩)
          rw [if_pos (show i3 (cN : Nat) = i3 (m : Nat) by rw [qm]), r2, bad_ok (C := 4) (c := 4) rfl]
          rfl
        · refine Or.inr (Or.inr ⟨qd, by omega, ?_⟩)
          obtain ⟨f, x, k, v, eg, hg⟩ := TR_go hz hB hR
          have e1 : i3 ((8 + 24 * s + b : Nat) : Int) + i3 (cN : Nat) = i3 ((8 + 24 * s + b + cN : Nat) : Int) := by rw [i3_add]; rfl
          rw [if_neg (show ¬ i3 (cN : Nat) = i3 (m : Nat) by rw [i3_eq (by omega) (by omega) (by omega) (by omega)]; omega), e1, eg]
          simp (disch := omega) only [Option.bind_some, xg_in, i3_xnN]
          rw [upd_diff _ _ (show 8 + 24 * s + a ≠ 8 + 24 * s + b + cN by omega), ha, show i3 (cN : Nat) + 1 = i3 ((cN + 1 : Nat) : Int) from by rw [i3_l1, i3_add]; rfl]
          exact ⟨f, x, k, v, rfl, hg⟩
    · refine Or.inl ⟨k2, e9, ?_⟩
      rw [e10]
      simp (disch := omega) only [Option.bind_some, xg_in, i3_xnN, if_true]
      rw [r2, bad_ok (C := 3) (c := 3) rfl]
      rfl
  · refine Or.inl ⟨k2, ?_⟩
    rw [if_neg (show ¬ token = 2 by rw [r4, i3_l2, i3_eq (by omega) (by omega) (by omega) (by omega)]; omega), r2, bad_ok (C := 1) (c := 1) rfl]
    rfl
theorem BKr_put {K : Nat} {fo bN : Nat → Nat} {bI : Nat → Nat → Nat} {bList : Nat → Nat → Int32} {bMany told told' : Nat → Int32} (hB : BKr K fo bN bI bList bMany told) {s : Nat} (hs : s < 2) (ho : ∀ j, ¬ (8 + 24 * s ≤ j ∧ j < 8 + 24 * s + 7) → told' j = told j) {n : Nat} {I : Nat → Nat} {list : Nat → Int32} {mm : Int32} (hn : n ≤ 6) (hm : mm = i3 (n : Nat)) (ht : told' (8 + 24 * s) = i3 (n : Nat)) (hk : ∀ k, k < n → I k < ns K (fo s) ∧ list k = i3 (I k : Nat) ∧ told' (8 + 24 * s + 1 + k) = i3 (cd K (fo s) (I k) : Nat)) (hd : ∀ k j, k < n → j < n → k ≠ j → I k ≠ I j) : BKr K fo (va_up bN s n) (va_up bI s I) (va_up bList s list) (va_up bMany s mm) told' := by
  intro s' hs'
  by_cases e : s' = s
  · subst e
    rw [va_up_self, va_up_self, va_up_self, va_up_self]
    exact ⟨hn, hm, ht, hk, hd⟩
  · rw [va_up_ne _ _ e, va_up_ne _ _ e, va_up_ne _ _ e, va_up_ne _ _ e]
    obtain ⟨h1, h2, h3, h4, h5⟩ := hB s' hs'
    exact ⟨h1, h2, (ho _ (by omega)).trans h3, fun k hk' => ⟨(h4 k hk').1, (h4 k hk').2.1, (ho _ (by omega)).trans (h4 k hk').2.2⟩, h5⟩
theorem PLr_offB {K : Nat} {fo pN : Nat → Nat} {pI : Nat → Nat → Nat} {pW : Nat → Nat → Int} {pList pWei : Nat → Nat → Int32} {pMany pAll told told' : Nat → Int32} (hP : PLr K fo pN pI pW pList pWei pMany pAll told) {s : Nat} (hs : s < 2) (ho : ∀ j, ¬ (8 + 24 * s ≤ j ∧ j < 8 + 24 * s + 7) → told' j = told j) : PLr K fo pN pI pW pList pWei pMany pAll told' := fun s' hs' => by
  obtain ⟨h1, h2, h3, h4, h5, h6⟩ := hP s' hs'
  exact ⟨h1, h2, (ho _ (by omega)).trans h3, h4, fun k hk => by obtain ⟨a1, a2, a3, a4, a5, a6, a7⟩ := h5 k hk; exact ⟨a1, a2, a3, a4, a5, (ho _ (by omega)).trans a6, (ho _ (by omega)).trans a7⟩, h6⟩
theorem TD_off {K : Nat} (hK : K ≤ 4) {W : Nat → Int} {t : Int} {fo : Nat → Nat} {read read' : Nat → Int32} (hT : TD K W t fo read) (ho : ∀ j, j < 8 → read' j = read j) : TD K W t fo read' := ⟨(ho 0 (by omega)).trans hT.1, fun k hk => (ho _ (by omega)).trans (hT.2.1 k hk), fun s hs => (ho _ (by omega)).trans (hT.2.2.1 s hs), (ho 7 (by omega)).trans hT.2.2.2⟩
def BLo (bs : Nat → Nat) (n p : Nat) (fields ties : Int32) (worth forces many : Nat → Int32) (codes pList pWei : Nat → Nat → Int32) (pMany pAll : Nat → Int32) (o9 : Option (Int32 × Int32 × Int32 × Int32 × Int32 × (Nat → Nat → Int32) × (Nat → Int32))) (o10 : Option (Int32 × (Nat → Int32) × Int32 × Int32 × Int32 × Int32 × Int32 × Int32)) : Prop :=
  (∃ p' r9 r10, o9 = some r9 ∧ o10 = some r10 ∧ r9.1 = 1 ∧ TCk bs n p' r9.2.2.1 r9.2.2.2.1 r9.2.2.2.2.1 ∧ okR bs n p' r10 ∧ p + 1 ≤ p' ∧ RS fields ties worth forces many codes r9.2.2.2.2.2.1 r9.2.2.2.2.2.2 pList pWei pMany pAll r10.2.1) ∨ (∃ e r9 r10, 1 ≤ e ∧ e ≤ 10000 ∧ o9 = some r9 ∧ o10 = some r10 ∧ r9.1 = 0 ∧ r9.2.1 = i3 (-2 - e) ∧ noR e r10)
theorem book_loop {z n K s : Nat} (hz : 1000 ≤ z) {bs : Nat → Nat} {bytes tape : Nat → Int32} (hB : TB n bs bytes tape) (hs : s < 2) {W : Nat → Int} {t : Int} {fo : Nat → Nat} {fields ties : Int32} {worth forces many : Nat → Int32} {codes : Nat → Nat → Int32} (hX : SX K W t fo fields ties worth forces many codes) {pN : Nat → Nat} {pI : Nat → Nat → Nat} {pW : Nat → Nat → Int} {pList pWei : Nat → Nat → Int32} {pMany pAll : Nat → Int32} (fault number : Int32) : ∀ (rem w w' c p p0 : Nat) (bN : Nat → Nat) (bI : Nat → Nat → Nat) (bList : Nat → Nat → Int32) (bMany read : Nat → Int32) (kind from' behind fromR next token value : Int32), c + rem = 6 → rem + 1 ≤ w → rem + 1 ≤ w' → p0 ≤ p → TCk bs n p kind from' behind → TRk bs n p fromR next token value → TD K W t fo read → BKr K fo bN bI bList bMany read → bN s = c → PLr K fo pN pI pW pList pWei pMany pAll read → BLo bs n p0 fields ties worth forces many codes pList pWei pMany pAll (F8_readBook_b46 z (i3 s) s (i3 c) fault bytes kind from' behind (i3 n) fields many codes bList bMany (fun q0 q1 q2 q3 q4 q5 q6 q7 q8 q9 q10 q11 q12 q13 => F8_readBook_b31 z w q0 q1 q2 q3 q4 q5 q6 q7 q8 q9 q10 q11 q12 q13)) ((F10_splitTold z (i3 s) 1 0 6 read tape (i3 n) fromR next token value 0).bind (fun v => F10_bookLine_b41 z w' (i3 s) v.1 v.2.1 tape (i3 n) v.2.2.1 v.2.2.2.1 v.2.2.2.2.1 v.2.2.2.2.2.1 v.2.2.2.2.2.2 number)) := by
  intro rem
  induction rem with
  | zero =>
    intro w w' c p p0 bN bI bList bMany read kind from' behind fromR next token value hc hw hw' hp0 hC hR hT hBk hbc hPl
    obtain ⟨w', rfl⟩ : ∃ v, w' = v + 1 := ⟨w' - 1, by omega⟩
    obtain ⟨d1, d2, d3, d4, d5⟩ := hBk s hs
    rw [hbc] at d1 d2 d3 d4 d5
    have n0 := ns_bd hX.1 (hX.2.1 s hs)
    have blt : Nat.blt s 2 = true := by rw [Nat.blt_eq]; exact hs
    have s3 := spc_bd bs hC.1
    have n3 := hB.1
    have f1 := (tk_facts bs hC.1).1
    unfold F8_readBook_b46 F8_readBook_b57 F8_readBook_b85 F8_readBook_b97
    rw [blt, hC.2.2.1, refuse_ok (C := 1) (c := 1) rfl, refuse_ok (C := 3) (c := 3) rfl, refuse_ok (C := 4) (c := 4) rfl, ← hC.2.2.1]
    rcases splitTold_ok hz hB hC hR hX hT hs (A := 0) (B := 1) (M := 6) (a := 0) (b := 1) (m := 6) (cN := c) rfl rfl rfl (by omega) (by omega) (by omega) d1 (I := bI s) d3 (fun k hk => ⟨(d4 k hk).1, (d4 k hk).2.2⟩) with ⟨k2, e10⟩ | ⟨k2, e9, e10⟩ | ⟨k2, i, hi, e9, ⟨qd, e10⟩ | ⟨qd, qm, e10⟩ | ⟨qd, qm, e10⟩⟩
    · rw [e10, if_neg (show ¬ kind = 2 by rw [hC.2.1, i3_l2, i3_eq (by omega) (by omega) (by omega) (by omega)]; omega)]
      exact Or.inr ⟨_, _, _, by omega, by omega, rfl, rfl, rfl, rfl, rfl, rfl⟩
    · rw [e10, if_pos (show kind = 2 by rw [hC.2.1, k2]; rfl), e9]
      exact Or.inr ⟨_, _, _, by omega, by omega, rfl, rfl, rfl, rfl, rfl, rfl⟩
    · rw [e10, if_pos (show kind = 2 by rw [hC.2.1, k2]; rfl), e9]
      simp only [Option.bind_some]
      rw [if_neg (show ¬ i3 (i : Int) = -1 by rw [i3_m1, i3_eq (by omega) (by omega) (by omega) (by omega)]; omega), d2, (F0_has_ok (by omega) d1 (fun k hk => ⟨(d4 k hk).2.1, by have := (d4 k hk).1; omega⟩) (by omega)).1 qd]
      exact Or.inr ⟨_, _, _, by omega, by omega, rfl, rfl, rfl, rfl, rfl, rfl⟩
    · rw [e10, if_pos (show kind = 2 by rw [hC.2.1, k2]; rfl), e9]
      simp only [Option.bind_some]
      rw [if_neg (show ¬ i3 (i : Int) = -1 by rw [i3_m1, i3_eq (by omega) (by omega) (by omega) (by omega)]; omega), d2, (F0_has_ok (by omega) d1 (fun k hk => ⟨(d4 k hk).2.1, by have := (d4 k hk).1; omega⟩) (by omega)).2 qd]
      simp only [Option.bind_some, if_true]
      rw [if_neg (show ¬ i3 (c : Int) < 6 by rw [i3_l6, i3_lt (by omega) (by omega) (by omega) (by omega)]; omega)]
      exact Or.inr ⟨_, _, _, by omega, by omega, rfl, rfl, rfl, rfl, rfl, rfl⟩
    · omega
  | succ rem ih =>
    intro w w' c p p0 bN bI bList bMany read kind from' behind fromR next token value hc hw hw' hp0 hC hR hT hBk hbc hPl
    obtain ⟨w, rfl⟩ : ∃ v, w = v + 1 := ⟨w - 1, by omega⟩
    obtain ⟨w', rfl⟩ : ∃ v, w' = v + 1 := ⟨w' - 1, by omega⟩
    obtain ⟨d1, d2, d3, d4, d5⟩ := hBk s hs
    rw [hbc] at d1 d2 d3 d4 d5
    have n0 := ns_bd hX.1 (hX.2.1 s hs)
    have blt : Nat.blt s 2 = true := by rw [Nat.blt_eq]; exact hs
    have s3 := spc_bd bs hC.1
    have n3 := hB.1
    have tf := tk_facts bs hC.1
    have f1 := tf.1
    unfold F8_readBook_b46 F8_readBook_b57 F8_readBook_b85 F8_readBook_b97
    rw [blt, hC.2.2.1, refuse_ok (C := 1) (c := 1) rfl, refuse_ok (C := 3) (c := 3) rfl, refuse_ok (C := 4) (c := 4) rfl, ← hC.2.2.1]
    rcases splitTold_ok hz hB hC hR hX hT hs (A := 0) (B := 1) (M := 6) (a := 0) (b := 1) (m := 6) (cN := c) rfl rfl rfl (by omega) (by omega) (by omega) d1 (I := bI s) d3 (fun k hk => ⟨(d4 k hk).1, (d4 k hk).2.2⟩) with ⟨k2, e10⟩ | ⟨k2, e9, e10⟩ | ⟨k2, i, hi, e9, ⟨qd, e10⟩ | ⟨qd, qm, e10⟩ | ⟨qd, qm, fR, xR, kR, vR, e10, hR2⟩⟩
    · rw [e10, if_neg (show ¬ kind = 2 by rw [hC.2.1, i3_l2, i3_eq (by omega) (by omega) (by omega) (by omega)]; omega)]
      exact Or.inr ⟨_, _, _, by omega, by omega, rfl, rfl, rfl, rfl, rfl, rfl⟩
    · rw [e10, if_pos (show kind = 2 by rw [hC.2.1, k2]; rfl), e9]
      exact Or.inr ⟨_, _, _, by omega, by omega, rfl, rfl, rfl, rfl, rfl, rfl⟩
    · rw [e10, if_pos (show kind = 2 by rw [hC.2.1, k2]; rfl), e9]
      simp only [Option.bind_some]
      rw [if_neg (show ¬ i3 (i : Int) = -1 by rw [i3_m1, i3_eq (by omega) (by omega) (by omega) (by omega)]; omega), d2, (F0_has_ok (by omega) d1 (fun k hk => ⟨(d4 k hk).2.1, by have := (d4 k hk).1; omega⟩) (by omega)).1 qd]
      exact Or.inr ⟨_, _, _, by omega, by omega, rfl, rfl, rfl, rfl, rfl, rfl⟩
    · omega
    · obtain ⟨kC, fC, bC, es, hC2⟩ := TC_step hz hB hC (by omega)
      rw [e10, if_pos (show kind = 2 by rw [hC.2.1, k2]; rfl), e9]
      simp only [Option.bind_some]
      rw [if_neg (show ¬ i3 (i : Int) = -1 by rw [i3_m1, i3_eq (by omega) (by omega) (by omega) (by omega)]; omega), d2, (F0_has_ok (by omega) d1 (fun k hk => ⟨(d4 k hk).2.1, by have := (d4 k hk).1; omega⟩) (by omega)).2 qd]
      simp only [Option.bind_some, if_true]
      rw [if_pos (show i3 (c : Int) < 6 by rw [i3_l6, i3_lt (by omega) (by omega) (by omega) (by omega)]; omega)]
      unfold F0_put
      rw [if_neg (show ¬ (6 : Int32) ≤ i3 (c : Int) by rw [i3_l6, i3_le (by omega) (by omega) (by omega) (by omega)]; omega)]
      simp (disch := omega) only [Option.bind_some, xg_in, i3_xnN]
      rw [es]
      simp only [Option.bind_some]
      rw [show i3 (c : Int) + 1 = i3 ((c + 1 : Nat) : Int) from by rw [i3_l1, i3_add]; rfl]
      have off : ∀ j, ¬ (8 + 24 * s ≤ j ∧ j < 8 + 24 * s + 7) → upd (upd read (8 + 24 * s + 1 + c) (i3 (cd K (fo s) i : Nat))) (8 + 24 * s + 0) (i3 ((c + 1 : Nat) : Int)) j = read j := fun j hj => by
        rw [upd_diff _ _ (by omega), upd_diff _ _ (by omega)]
      have hBk' := BKr_put hBk hs off (n := c + 1) (I := fun k => if k = c then i else bI s k) (list := upd (bList s) c (i3 (i : Nat))) (mm := i3 ((c + 1 : Nat) : Int)) (by omega) rfl (by show upd _ (8 + 24 * s + 0) _ (8 + 24 * s + 0) = _; exact upd_same _ _ _) (fun k hk => by
        show (if k = c then i else bI s k) < _ ∧ _ = i3 ((if k = c then i else bI s k : Nat) : Int) ∧ _ = i3 (cd K (fo s) (if k = c then i else bI s k) : Nat)
        by_cases e : k = c
        · subst e
          rw [if_pos rfl, upd_same, upd_diff _ _ (by omega), upd_same]
          exact ⟨hi, rfl, rfl⟩
        · rw [if_neg e, upd_diff _ _ e, upd_diff _ _ (by omega), upd_diff _ _ (by omega)]
          exact d4 k (by omega)) (fun k j hk hj hkj => by
        show (if k = c then i else bI s k) ≠ (if j = c then i else bI s j)
        by_cases e : k = c
        · rw [if_pos e, if_neg (by omega)]
          exact fun h => qd ⟨j, by omega, h.symm⟩
        · rw [if_neg e]
          by_cases e' : j = c
          · rw [if_pos e']
            exact fun h => qd ⟨k, by omega, h⟩
          · rw [if_neg e']
            exact d5 k j (by omega) (by omega) hkj)
      have hT' := TD_off hX.1.2.1 hT (fun j hj => off j (by omega))
      have hPl' := PLr_offB hPl hs off
      have f2 := (tk_facts bs hC2.1).1
      unfold F8_readBook_b31 F10_bookLine_b41
      rw [blt, if_neg (show ¬ i3 ((c + 1 : Nat) : Int) = 0 by rw [i3_l0, i3_eq (by omega) (by omega) (by omega) (by omega)]; omega), if_neg n10]
      by_cases k2' : tkK bs n (tkN bs n p) = 2
      · rw [if_pos (show kC = 2 by rw [hC2.2.1, k2']; rfl), if_pos (show kR = 2 by rw [hR2.2.2.2.1, k2']; rfl)]
        exact ih w w' (c + 1) (tkN bs n p) p0 _ _ _ _ _ _ _ _ _ _ _ _ (by omega) (by omega) (by omega) (by omega) hC2 hR2 hT' hBk' (va_up_self _ _ _) hPl'
      · rw [if_neg (show ¬ kC = 2 by rw [hC2.2.1, i3_l2, i3_eq (by omega) (by omega) (by omega) (by omega)]; omega), if_neg (show ¬ kR = 2 by rw [hR2.2.2.2.1, i3_l2, i3_eq (by omega) (by omega) (by omega) (by omega)]; omega)]
        refine Or.inl ⟨tkN bs n p, _, _, rfl, rfl, rfl, hC2, ⟨rfl, hR2, rfl⟩, by have := tf.2.2.2.1 (by omega); omega, ?_⟩
        exact ⟨K, W, t, fo, _, _, pN, pI, pW, hX, hT', hBk', hPl'⟩
theorem book_line {z n p : Nat} (hz : 1000 ≤ z) {bs : Nat → Nat} {bytes tape : Nat → Int32} (hB : TB n bs bytes tape) {kind from' behind : Int32} (hC : TCk bs n p kind from' behind) {fromR next token value : Int32} (hR : TRk bs n p fromR next token value) (h1 : tkK bs n p = 1) {fields ties : Int32} {worth forces many : Nat → Int32} {codes bList : Nat → Nat → Int32} {bMany : Nat → Int32} {pList pWei : Nat → Nat → Int32} {pMany pAll read : Nat → Int32} (hS : RS fields ties worth forces many codes bList bMany pList pWei pMany pAll read) (fault number : Int32) : BLo bs n (tkN bs n p) fields ties worth forces many codes pList pWei pMany pAll (F8_readBook z fault bytes kind from' behind (i3 n) fields many codes bList bMany) (F10_bookLine z read tape (i3 n) fromR next token value 0 number) := by
  obtain ⟨k1, f1, b1, e1, hC1⟩ := TC_step hz hB hC (by omega)
  obtain ⟨g1, x1, t1, v1, e2, hR1⟩ := TR_go hz hB hR
  obtain ⟨K, W, t, fo, bN, bI, pN, pI, pW, hX, hT, hBk, hPl⟩ := hS
  unfold F8_readBook F8_readSide F10_bookLine
  rw [e1, e2]
  simp only [Option.bind_some]
  rcases num_both hz hB hC1 hR1 (LO := 0) (HI := 1) (lo := 0) (hi := 1) rfl rfl (by omega) (by omega) (by omega) (by omega) fault number with ⟨q1, q2, q3, q4, q5, ⟨kC, fC, bC, q6, hC2⟩, fR, xR, kR, vR, q7, hR2⟩ | ⟨e, num', q1, q2, q3, q4⟩
  · obtain ⟨s, es⟩ : ∃ s : Nat, vlu bs n (tkN bs n p) = s := ⟨(vlu bs n (tkN bs n p)).toNat, by omega⟩
    have hs : s < 2 := by omega
    rw [es] at q5 q7
    have tf := tk_facts bs hC1.1
    have sb := spc_bd bs hC1.1
    have blt : Nat.blt s 2 = true := by rw [Nat.blt_eq]; exact hs
    rw [q4, q7]
    simp only [Option.bind_some]
    rw [if_neg n10, if_neg n10, q5]
    simp only [Option.bind_some]
    rw [q6]
    simp only [Option.bind_some]
    rw [isSide9 (s : Int) (by omega) (by omega), if_pos (show (s : Int) = 0 ∨ (s : Int) = 1 by omega), show F10_at (i3 s) 0 = some (i3 ((8 + 24 * s + 0 : Nat) : Int)) from F10_at_ok s 0]
    simp (disch := omega) only [Option.bind_some, xg_in, i3_xnN]
    rw [if_neg n10]
    have off : ∀ j, ¬ (8 + 24 * s ≤ j ∧ j < 8 + 24 * s + 7) → upd read (8 + 24 * s + 0) 0 j = read j := fun j hj => upd_diff _ _ (by omega)
    have hBk' := BKr_put hBk hs off (n := 0) (I := bI s) (list := bList s) (mm := 0) (by omega) rfl (upd_same _ _ _) (fun k hk => absurd hk (Nat.not_lt_zero k)) (fun k _ hk => absurd hk (Nat.not_lt_zero k))
    have eL : va_up bList s (bList s) = bList := by
      funext j
      by_cases c : j = s
      · subst c; rw [va_up_self]
      · rw [va_up_ne _ _ c]
    rw [eL] at hBk'
    obtain ⟨y, hy⟩ : ∃ y, z = y + 1 := ⟨z - 1, by omega⟩
    have lp := book_loop (z := z) (n := n) hz hB hs hX (pN := pN) (pI := pI) (pW := pW) (pList := pList) (pWei := pWei) (pMany := pMany) (pAll := pAll) fault (i3 (s : Int)) 6 y z 0 (tkN bs n (tkN bs n p)) (tkN bs n p) _ _ _ _ _ _ _ _ _ _ _ _ (by omega) (by omega) (by omega) (by have := tf.2.2.2.1 (by omega); omega) hC2 hR2 (TD_off hX.1.2.1 hT (fun j hj => off j (by omega))) hBk' (va_up_self _ _ _) (PLr_offB hPl hs off)
    have e31 : F8_readBook_b31 z z (i3 s) s 0 fault bytes kC fC bC (i3 n) fields many codes bList (va_up bMany s 0) = F8_readBook_b46 z (i3 s) s (i3 ((0 : Nat) : Int)) fault bytes kC fC bC (i3 n) fields many codes bList (va_up bMany s 0) (fun q0 q1 q2 q3 q4 q5 q6 q7 q8 q9 q10 q11 q12 q13 => F8_readBook_b31 z y q0 q1 q2 q3 q4 q5 q6 q7 q8 q9 q10 q11 q12 q13) := by
      have : F8_readBook_b31 z (y + 1) (i3 s) s 0 fault bytes kC fC bC (i3 n) fields many codes bList (va_up bMany s 0) = F8_readBook_b46 z (i3 s) s (i3 ((0 : Nat) : Int)) fault bytes kC fC bC (i3 n) fields many codes bList (va_up bMany s 0) (fun q0 q1 q2 q3 q4 q5 q6 q7 q8 q9 q10 q11 q12 q13 => F8_readBook_b31 z y q0 q1 q2 q3 q4 q5 q6 q7 q8 q9 q10 q11 q12 q13) := by
        conv => lhs; unfold F8_readBook_b31
        rw [blt, if_pos rfl]
        rfl
      rw [← this, ← hy]
    rw [e31]
    exact lp
  · rw [q3, q4]
    exact Or.inr ⟨e, _, _, q1, q2, rfl, rfl, rfl, rfl, rfl, rfl⟩
