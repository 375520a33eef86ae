/-! ===== the text: what both hold while they read ===== -/
def TD (K : Nat) (W : Nat → Int) (t : Int) (fo : Nat → Nat) (read : Nat → Int32) : Prop := read 0 = i3 K ∧ (∀ k, k < K → read (1 + k) = i3 (W k)) ∧ (∀ s, s < 2 → read (5 + s) = i3 (fo s)) ∧ read 7 = i3 t
def RS (fields ties : Int32) (worth forces many : Nat → Int32) (codes bList : Nat → Nat → Int32) (bMany : Nat → Int32) (pList pWei : Nat → Nat → Int32) (pMany pAll read : Nat → Int32) : Prop := ∃ (K : Nat) (W : Nat → Int) (t : Int) (fo bN : Nat → Nat) (bI : Nat → Nat → Nat) (pN : Nat → Nat) (pI : Nat → Nat → Nat) (pW : Nat → Nat → Int), SX K W t fo fields ties worth forces many codes ∧ TD K W t fo read ∧ BKr K fo bN bI bList bMany read ∧ PLr K fo pN pI pW pList pWei pMany pAll read
/-- a line of the reference: read, or refused -/
def okR (bs : Nat → Nat) (n p : Nat) (r : Int32 × (Nat → Int32) × Int32 × Int32 × Int32 × Int32 × Int32 × Int32) : Prop := r.1 = 1 ∧ TRk bs n p r.2.2.1 r.2.2.2.1 r.2.2.2.2.1 r.2.2.2.2.2.1 ∧ r.2.2.2.2.2.2.1 = 0
def noR (e : Int) (r : Int32 × (Nat → Int32) × Int32 × Int32 × Int32 × Int32 × Int32 × Int32) : Prop := r.1 = 0 ∧ r.2.2.2.2.2.2.1 = i3 e
theorem BKr_eq {K : Nat} {fo bN : Nat → Nat} {bI : Nat → Nat → Nat} {bList : Nat → Nat → Int32} {bMany told told' : Nat → Int32} (hB : BKr K fo bN bI bList bMany told) (h : ∀ j, 8 ≤ j → told' j = told j) : BKr K fo bN bI bList bMany told' := fun s hs => by
  obtain ⟨h1, h2, h3, h4, h5⟩ := hB s hs
  exact ⟨h1, h2, (h _ (by omega)).trans h3, fun k hk => ⟨(h4 k hk).1, (h4 k hk).2.1, (h _ (by omega)).trans (h4 k hk).2.2⟩, h5⟩
theorem PLr_eq {K : Nat} {fo pN : Nat → Nat} {pI : Nat → Nat → Nat} {pW : Nat → Nat → Int} {pList pWei : Nat → Nat → Int32} {pMany pAll told told' : Nat → Int32} (hP : PLr K fo pN pI pW pList pWei pMany pAll told) (h : ∀ j, 8 ≤ j → told' j = told j) : PLr K fo pN pI pW pList pWei pMany pAll told' := fun s hs => by
  obtain ⟨h1, h2, h3, h4, h5, h6⟩ := hP s hs
  exact ⟨h1, h2, (h _ (by omega)).trans h3, h4, fun k hk => by obtain ⟨a1, a2, a3, a4, a5, a6, a7⟩ := h5 k hk; exact ⟨a1, a2, a3, a4, a5, (h _ (by omega)).trans a6, (h _ (by omega)).trans a7⟩, h6⟩
theorem BKr_zero (K : Nat) (fo : Nat → Nat) (bI : Nat → Nat → Nat) (bList : Nat → Nat → Int32) {bMany told : Nat → Int32} (h : ∀ s, s < 2 → bMany s = 0 ∧ told (8 + 24 * s) = 0) : BKr K fo (fun _ => 0) bI bList bMany told := fun s hs => ⟨Nat.zero_le _, (h s hs).1, (h s hs).2, fun k hk => absurd hk (Nat.not_lt_zero k), fun k _ hk => absurd hk (Nat.not_lt_zero k)⟩
theorem PLr_zero (K : Nat) (fo : Nat → Nat) (pI : Nat → Nat → Nat) (pW : Nat → Nat → Int) (pList pWei : Nat → Nat → Int32) {pMany pAll told : Nat → Int32} (h : ∀ s, s < 2 → pMany s = 0 ∧ pAll s = 0 ∧ told (8 + 24 * s + 7) = 0) : PLr K fo (fun _ => 0) pI pW pList pWei pMany pAll told := fun s hs => ⟨Nat.zero_le _, (h s hs).1, (h s hs).2.2, (h s hs).2.1, fun k hk => absurd hk (Nat.not_lt_zero k), fun k _ hk => absurd hk (Nat.not_lt_zero k)⟩
theorem ends_at (told : Nat → Int32) : (∀ j, j ≠ 8 → j ≠ 15 → j ≠ 32 → j ≠ 39 → (upd (upd (upd (upd told 8 0) 15 0) 32 0) 39 0) j = told j) ∧ (∀ s, s < 2 → (upd (upd (upd (upd told 8 0) 15 0) 32 0) 39 0) (8 + 24 * s) = 0 ∧ (upd (upd (upd (upd told 8 0) 15 0) 32 0) 39 0) (8 + 24 * s + 7) = 0) := by
  constructor
  · intro j a b c d
    rw [upd_diff _ _ d, upd_diff _ _ c, upd_diff _ _ b, upd_diff _ _ a]
  · intro s hs
    rcases two_cases hs with rfl | rfl
    · exact ⟨rfl, rfl⟩
    · exact ⟨rfl, rfl⟩
/-- a number, read by both, and what is behind it -/
theorem num_both {z n p : Nat} (hz : 1000 ≤ z) {bs : Nat → Nat} {bytes tape : Nat → Int32} (hB : TB n bs bytes tape) {kind from' behind : Int32} (hC : TCk bs n p kind from' behind) {fromR next token value : Int32} (hR : TRk bs n p fromR next token value) {LO HI : Int32} {lo hi : Int} (eL : LO = i3 lo) (eH : HI = i3 hi) (h1 : 0 ≤ lo) (h2 : lo ≤ 1000) (h3 : -1000 ≤ hi) (h4 : hi ≤ 1000) (fault number : Int32) : (tkK bs n p = 2 ∧ lo ≤ vlu bs n p ∧ vlu bs n p ≤ hi ∧ F8_isNumber z LO HI fault bytes kind from' behind = some (1, fault) ∧ F7_amount z bytes from' behind = some (i3 (vlu bs n p)) ∧ (∃ k f b, F7_step z bytes kind from' behind (i3 n) = some (k, f, b) ∧ TCk bs n (tkN bs n p) k f b) ∧ ∃ f x k v, F10_numberIn z LO HI tape (i3 n) fromR next token value 0 number = some (1, f, x, k, v, 0, i3 (vlu bs n p)) ∧ TRk bs n (tkN bs n p) f x k v) ∨ (∃ (e : Int) (num' : Int32), 1 ≤ e ∧ e ≤ 10000 ∧ F8_isNumber z LO HI fault bytes kind from' behind = some (0, i3 (-2 - e)) ∧ F10_numberIn z LO HI tape (i3 n) fromR next token value 0 number = some (0, fromR, next, token, value, i3 e, num')) := by
  obtain ⟨y1, y2⟩ := isNum_ok hz hB hC hR eL eH h1 h2 h3 h4 fault number
  by_cases q : tkK bs n p = 2 ∧ lo ≤ vlu bs n p ∧ vlu bs n p ≤ hi
  · obtain ⟨a1, a2⟩ := y1 q
    obtain ⟨f, x, k, v, eg, hg⟩ := TR_go hz hB hR
    refine Or.inl ⟨q.1, q.2.1, q.2.2, a1, amt_ok hz hB hC q.1, TC_step hz hB hC (by omega), f, x, k, v, ?_, hg⟩
    unfold F10_numberIn
    rw [a2]
    simp only [Option.bind_some]
    rw [if_neg n10, eg]
    rfl
  · obtain ⟨e, num', e1, e2, a1, a2⟩ := y2 q
    refine Or.inr ⟨e, num', e1, e2, a1, ?_⟩
    unfold F10_numberIn
    rw [a2]
    rfl
theorem ties_line {z n p : Nat} (hz : 1000 ≤ z) {bs : Nat → Nat} {bytes tape : Nat → Int32} (hB : TB n bs bytes tape) {kind from' behind : Int32} (hC : TCk bs n p kind from' behind) {fromR next token value : Int32} (hR : TRk bs n p fromR next token value) (h1 : tkK bs n p = 1) {fields ties : Int32} {worth forces many : Nat → Int32} {codes bList : Nat → Nat → Int32} {bMany : Nat → Int32} {pList pWei : Nat → Nat → Int32} {pMany pAll read : Nat → Int32} (hS : RS fields ties worth forces many codes bList bMany pList pWei pMany pAll read) (fault number : Int32) : (∃ p' r9 r10, F8_readTies z fault bytes kind from' behind (i3 n) ties = some r9 ∧ F10_tiesLine z read tape (i3 n) fromR next token value 0 number = some r10 ∧ r9.1 = 1 ∧ TCk bs n p' r9.2.2.1 r9.2.2.2.1 r9.2.2.2.2.1 ∧ okR bs n p' r10 ∧ tkN bs n p + 1 ≤ p' ∧ RS fields r9.2.2.2.2.2 worth forces many codes bList bMany pList pWei pMany pAll r10.2.1) ∨ (∃ e r9 r10, 1 ≤ e ∧ e ≤ 10000 ∧ F8_readTies z fault bytes kind from' behind (i3 n) ties = some r9 ∧ F10_tiesLine z read tape (i3 n) fromR next token value 0 number = some r10 ∧ r9.1 = 0 ∧ r9.2.1 = i3 (-2 - e) ∧ noR e r10) := by
  obtain ⟨k1, f1, b1, e1, hC1⟩ := TC_step hz hB hC (by omega)
  obtain ⟨g1, x1, t1, v1, e2, hR1⟩ := TR_go hz hB hR
  unfold F8_readTies F10_tiesLine
  rw [e1, e2]
  simp only [Option.bind_some]
  rcases num_both hz hB hC1 hR1 (LO := 0) (HI := 2) (lo := 0) (hi := 2) rfl rfl (by omega) (by omega) (by omega) (by omega) fault number with ⟨q1, q2, q3, q4, q5, ⟨k2, f2, b2, q6, hC2⟩, g2, x2, t2, v2, q7, hR2⟩ | ⟨e, num', q1, q2, q3, q4⟩
  · rw [q4, q7]
    simp only [Option.bind_some]
    rw [if_neg n10, q5]
    simp only [Option.bind_some]
    rw [q6]
    have nb := tk_facts bs hC1.1
    have sb := spc_bd bs hC1.1
    refine Or.inl ⟨_, _, _, rfl, rfl, rfl, hC2, ⟨rfl, hR2, rfl⟩, ?_, ?_⟩
    · have := nb.2.2.2.1 (by omega)
      omega
    · obtain ⟨K, W, t, fo, bN, bI, pN, pI, pW, hX, hT, hBk, hPl⟩ := hS
      obtain ⟨hV, x2, x3, x4, x5, x6, x7, x8⟩ := hX
      refine ⟨K, W, vlu bs n (tkN bs n p), fo, bN, bI, pN, pI, pW, ⟨⟨hV.1, hV.2.1, hV.2.2.1, hV.2.2.2.1, q2, q3⟩, x2, x3, rfl, x5, x6, x7, x8⟩, ⟨?_, fun k hk => ?_, fun s hs => ?_, ?_⟩, BKr_eq hBk (fun j hj => upd_diff _ _ (by omega)), PLr_eq hPl (fun j hj => upd_diff _ _ (by omega))⟩
      · show upd read 7 (i3 (vlu bs n (tkN bs n p))) 0 = _
        rw [upd_diff _ _ (by omega)]; exact hT.1
      · show upd read 7 _ (1 + k) = _
        have := hV.2.1
        rw [upd_diff _ _ (by omega)]; exact hT.2.1 k hk
      · show upd read 7 _ (5 + s) = _
        rw [upd_diff _ _ (by omega)]; exact hT.2.2.1 s hs
      · show upd read 7 _ 7 = _
        exact upd_same _ _ _
  · rw [q3, q4]
    exact Or.inr ⟨e, _, _, q1, q2, rfl, rfl, rfl, rfl, rfl, rfl⟩
theorem forces_line {z n p : Nat} (hz : 1000 ≤ z) {bs : Nat → Nat} {bytes tape : Nat → Int32} (hB : TB n bs bytes tape) {kind from' behind : Int32} (hC : TCk bs n p kind from' behind) {fromR next token value : Int32} (hR : TRk bs n p fromR next token value) (h1 : tkK bs n p = 1) {fields ties : Int32} {worth forces many : Nat → Int32} {codes bList : Nat → Nat → Int32} {bMany : Nat → Int32} {pList pWei : Nat → Nat → Int32} {pMany pAll read : Nat → Int32} (hS : RS fields ties worth forces many codes bList bMany pList pWei pMany pAll read) (pDrawn : Nat → Nat → Int32) (pTurns : Nat → Int32) (fault number : Int32) : (∃ p' r9 r10, F8_readForces z fault bytes kind from' behind (i3 n) fields forces many codes bMany pDrawn pMany pAll pTurns = some r9 ∧ F10_forcesLine z read tape (i3 n) fromR next token value 0 number = some r10 ∧ r9.1 = 1 ∧ TCk bs n p' r9.2.2.1 r9.2.2.2.1 r9.2.2.2.2.1 ∧ okR bs n p' r10 ∧ tkN bs n p + 1 ≤ p' ∧ RS fields ties worth r9.2.2.2.2.2.1 r9.2.2.2.2.2.2.1 r9.2.2.2.2.2.2.2.1 bList r9.2.2.2.2.2.2.2.2.1 pList pWei r9.2.2.2.2.2.2.2.2.2.2.1 r9.2.2.2.2.2.2.2.2.2.2.2.1 r10.2.1) ∨ (∃ e r9 r10, 1 ≤ e ∧ e ≤ 10000 ∧ F8_readForces z fault bytes kind from' behind (i3 n) fields forces many codes bMany pDrawn pMany pAll pTurns = some r9 ∧ F10_forcesLine z read tape (i3 n) fromR next token value 0 number = some r10 ∧ r9.1 = 0 ∧ r9.2.1 = i3 (-2 - e) ∧ noR e r10) := by
  obtain ⟨y, rfl⟩ : ∃ y, z = y + 3 := ⟨z - 3, by omega⟩
  obtain ⟨k1, f1, b1, e1, hC1⟩ := TC_step hz hB hC (by omega)
  obtain ⟨g1, x1, t1, v1, e2, hR1⟩ := TR_go hz hB hR
  have lt2 : ¬ (2 : Int32) ≤ 0 := by decide
  have lt3 : ¬ (2 : Int32) ≤ 0 + 1 := by decide
  have le4 : (2 : Int32) ≤ 0 + 1 + 1 := by decide
  have i0 : xin (0 : Int32) 2 = true := rfl
  have i1 : xin (0 + 1 : Int32) 2 = true := rfl
  have xn0 : xn (0 : Int32) = 0 := rfl
  have xn1 : xn (0 + 1 : Int32) = 1 := rfl
  have xgt : ∀ {α : Type} (k : Option α), xg true k = k := fun _ => rfl
  unfold F8_readForces F10_forcesLine
  rw [e1, e2]
  simp only [Option.bind_some]
  rcases num_both hz hB hC1 hR1 (LO := 0) (HI := 7) (lo := 0) (hi := 7) rfl rfl (by omega) (by omega) (by omega) (by omega) fault number with ⟨q1, q2, q3, q4, q5, ⟨k2, f2, b2, q6, hC2⟩, g2, x2, t2, v2, q7, hR2⟩ | ⟨e, num', q1, q2, q3, q4⟩
  · unfold F8_readForces_b9
    rw [if_neg lt2, q4, q7]
    simp only [Option.bind_some]
    rw [if_neg n10, if_neg n10, q5]
    simp only [Option.bind_some]
    rw [i0, xgt, q6]
    simp only [Option.bind_some]
    rcases num_both hz hB hC2 hR2 (LO := 0) (HI := 7) (lo := 0) (hi := 7) rfl rfl (by omega) (by omega) (by omega) (by omega) fault (i3 (vlu bs n (tkN bs n p))) with ⟨s1, s2, s3, s4, s5, ⟨k3, f3, b3, s6, hC3⟩, g3, x3, t3, v3, s7, hR3⟩ | ⟨e, num', s1, s2, s3, s4⟩
    · unfold F8_readForces_b9
      rw [if_neg lt3, s4, s7]
      simp only [Option.bind_some]
      rw [if_neg n10, s5, F10_endsBooks_ok (by omega)]
      simp only [Option.bind_some]
      rw [i1, xgt, s6]
      simp only [Option.bind_some]
      unfold F8_readForces_b9 F8_readForces_b55
      rw [if_pos le4, xn0, xn1]
      obtain ⟨K, W, t, fo, bN, bI, pN, pI, pW, ⟨hV, z2, z3, z4, z5, z6, z7, z8⟩, hT, hBk, hPl⟩ := hS
      have hvf : ∀ s, s < 2 → (if s = 0 then (vlu bs n (tkN bs n p)).toNat else (vlu bs n (tkN bs n (tkN bs n p))).toNat) ≤ 7 := fun s _ => by split <;> omega
      have hff : ∀ s, s < 2 → upd (upd forces 0 (i3 (vlu bs n (tkN bs n p)))) 1 (i3 (vlu bs n (tkN bs n (tkN bs n p)))) s = i3 ((if s = 0 then (vlu bs n (tkN bs n p)).toNat else (vlu bs n (tkN bs n (tkN bs n p))).toNat : Nat) : Int) := fun s hs => by
        rcases two_cases hs with rfl | rfl
        · rw [upd_diff _ _ (by omega), upd_same, if_pos rfl]
          congr 1; omega
        · rw [upd_same, if_neg (by omega)]
          congr 1; omega
      obtain ⟨many', codes', bm2, pdr2, pm2, pa2, pt2, er, r1, r2, r3⟩ := F4_renew_ok (z := y + 3) (by omega) hV.1 hV.2.1 hvf hff many codes bMany pDrawn pMany pAll pTurns
      rw [z3, er]
      have nb := tk_facts bs hC1.1
      have sb := spc_bd bs hC1.1
      have nb2 := tk_facts bs hC2.1
      have sb2 := spc_bd bs hC2.1
      have ea := ends_at (upd (upd read 5 (i3 (vlu bs n (tkN bs n p)))) 6 (i3 (vlu bs n (tkN bs n (tkN bs n p)))))
      refine Or.inl ⟨_, _, _, rfl, rfl, rfl, hC3, ⟨rfl, hR3, rfl⟩, ?_, ?_⟩
      · have a1 := nb.2.2.2.1 (by omega)
        have a2 := nb2.2.2.2.1 (by omega)
        omega
      · refine ⟨K, W, t, _, fun _ => 0, bI, fun _ => 0, pI, pW, ⟨hV, hvf, rfl, z4, z5, hff, r1, r2⟩, ⟨?_, fun k hk => ?_, fun s hs => ?_, ?_⟩, BKr_zero _ _ _ _ (fun s hs => ⟨(r3 s hs).1, (ea.2 s hs).1⟩), PLr_zero _ _ _ _ _ _ (fun s hs => ⟨(r3 s hs).2.1, (r3 s hs).2.2.1, (ea.2 s hs).2⟩)⟩
        · show (upd (upd (upd (upd (upd (upd read 5 (i3 (vlu bs n (tkN bs n p)))) 6 (i3 (vlu bs n (tkN bs n (tkN bs n p))))) 8 0) 15 0) 32 0) 39 0) 0 = _
          rw [ea.1 0 (by omega) (by omega) (by omega) (by omega), upd_diff _ _ (by omega), upd_diff _ _ (by omega)]; exact hT.1
        · have := hV.2.1
          show (upd (upd (upd (upd (upd (upd read 5 _) 6 _) 8 0) 15 0) 32 0) 39 0) (1 + k) = _
          rw [ea.1 (1 + k) (by omega) (by omega) (by omega) (by omega), upd_diff _ _ (by omega), upd_diff _ _ (by omega)]; exact hT.2.1 k hk
        · show (upd (upd (upd (upd (upd (upd read 5 _) 6 _) 8 0) 15 0) 32 0) 39 0) (5 + s) = _
          rw [ea.1 (5 + s) (by omega) (by omega) (by omega) (by omega), ← hff s hs]
          rcases two_cases hs with rfl | rfl
          · rw [upd_diff _ _ (by omega), upd_same]; rfl
          · rw [upd_same]; rfl
        · show (upd (upd (upd (upd (upd (upd read 5 (i3 (vlu bs n (tkN bs n p)))) 6 (i3 (vlu bs n (tkN bs n (tkN bs n p))))) 8 0) 15 0) 32 0) 39 0) 7 = _
          rw [ea.1 7 (by omega) (by omega) (by omega) (by omega), upd_diff _ _ (by omega), upd_diff _ _ (by omega)]; exact hT.2.2.2
    · unfold F8_readForces_b9
      rw [if_neg lt3, s3, s4]
      simp only [Option.bind_some]
      rw [F10_endsBooks_ok (by omega)]
      exact Or.inr ⟨e, _, _, s1, s2, rfl, rfl, rfl, rfl, rfl, rfl⟩
  · unfold F8_readForces_b9
    rw [if_neg lt2, q3, q4]
    exact Or.inr ⟨e, _, _, q1, q2, rfl, rfl, rfl, rfl, rfl, rfl⟩
