/-! ===== the text: the line of fields ===== -/
/-- what the line of fields comes to: read, or refused -/
def FLo (bs : Nat → Nat) (n p : Nat) (ties : Int32) (forces : Nat → Int32) (bList pList pWei : Nat → Nat → Int32) (o9 : Option (Int32 × Int32 × Int32 × Int32 × Int32 × Int32 × (Nat → Int32) × (Nat → Int32) × (Nat → Nat → Int32) × (Nat → Int32) × (Nat → Nat → Int32) × (Nat → Int32) × (Nat → Int32) × (Nat → Int32))) (o10 : Option (Int32 × (Nat → Int32) × Int32 × Int32 × Int32 × Int32 × Int32 × Int32)) : Prop :=
  (∃ p' r9 r10, o9 = some r9 ∧ o10 = some r10 ∧ r9.1 = 1 ∧ TCk bs n p' r9.2.2.1 r9.2.2.2.1 r9.2.2.2.2.1 ∧ okR bs n p' r10 ∧ p + 1 ≤ p' ∧ RS r9.2.2.2.2.2.1 ties r9.2.2.2.2.2.2.1 forces r9.2.2.2.2.2.2.2.1 r9.2.2.2.2.2.2.2.2.1 bList r9.2.2.2.2.2.2.2.2.2.1 pList pWei r9.2.2.2.2.2.2.2.2.2.2.2.1 r9.2.2.2.2.2.2.2.2.2.2.2.2.1 r10.2.1) ∨ (∃ e r9 r10, 1 ≤ e ∧ e ≤ 10000 ∧ o9 = some r9 ∧ o10 = some r10 ∧ r9.1 = 0 ∧ r9.2.1 = i3 (-2 - e) ∧ noR e r10)
theorem fields_fin {z n p0 p : Nat} (hz : 1000 ≤ z) {bs : Nat → Nat} {bytes tape : Nat → Int32} {kind from' behind : Int32} (hC : TCk bs n p kind from' behind) {fromR next token value : Int32} (hR : TRk bs n p fromR next token value) (h2 : tkK bs n p ≠ 2) (hp : p0 + 1 ≤ p) {c : Nat} (hc1 : 1 ≤ c) (hc : c ≤ 4) {V : Nat → Int} (hv : ∀ k, k < c → 1 ≤ V k) (hsm : sm c V ≤ 8) {t : Int} (ht : 0 ≤ t ∧ t ≤ 2) {fo : Nat → Nat} (hfo : ∀ s, s < 2 → fo s ≤ 7) {fields ties : Int32} (htt : ties = i3 t) {worth forces : Nat → Int32} (hw : ∀ k, k < c → worth k = i3 (V k)) (hf : ∀ s, s < 2 → forces s = i3 (fo s : Nat)) {read : Nat → Int32} (hr0 : read 0 = i3 c) (hrw : ∀ k, k < c → read (1 + k) = i3 (V k)) (hrf : ∀ s, s < 2 → read (5 + s) = i3 (fo s)) (hr7 : read 7 = i3 t) (many : Nat → Int32) (codes bList : Nat → Nat → Int32) (bMany : Nat → Int32) (pList pWei pDrawn : Nat → Nat → Int32) (pMany pAll pTurns : Nat → Int32) (x1 fault number : Int32) (w w' : Nat) : FLo bs n p0 ties forces bList pList pWei (F8_readFields_b12 z (w + 1) x1 (i3 c) fault bytes kind from' behind (i3 n) fields worth forces many codes bMany pDrawn pMany pAll pTurns) (F10_fieldsLine_b15 z (w' + 1) 1 0 read tape (i3 n) fromR next token value 0 number) := by
  have f1 := (tk_facts bs hC.1).1
  obtain ⟨many', codes', bm2, pdr2, pm2, pa2, pt2, er, r1, r2, r3⟩ := F4_renew_ok (z := z) (by omega) hc1 hc hfo hf many codes bMany pDrawn pMany pAll pTurns
  have ea := ends_at read
  unfold F8_readFields_b12 F8_readFields_b88 F10_fieldsLine_b15 F10_fieldsLine_b111
  rw [if_neg (show ¬ i3 (c : Int) = 0 by rw [i3_l0, i3_eq (by omega) (by omega) (by omega) (by omega)]; omega), if_neg (show ¬ kind = 2 by rw [hC.2.1, i3_l2, i3_eq (by omega) (by omega) (by omega) (by omega)]; omega), er, if_neg n10, if_pos rfl, F10_endsBooks_ok (by omega)]
  refine Or.inl ⟨p, _, _, rfl, rfl, rfl, hC, ⟨rfl, hR, rfl⟩, hp, ?_⟩
  refine ⟨c, V, t, fo, fun _ => 0, fun _ _ => 0, fun _ => 0, fun _ _ => 0, fun _ _ => 0, ⟨⟨hc1, hc, hv, hsm, ht.1, ht.2⟩, hfo, rfl, htt, hw, hf, r1, r2⟩, ⟨?_, fun k hk => ?_, fun s hs => ?_, ?_⟩, BKr_zero _ _ _ _ (fun s hs => ⟨(r3 s hs).1, (ea.2 s hs).1⟩), PLr_zero _ _ _ _ _ _ (fun s hs => ⟨(r3 s hs).2.1, (r3 s hs).2.2.1, (ea.2 s hs).2⟩)⟩
  · exact (ea.1 0 (by omega) (by omega) (by omega) (by omega)).trans hr0
  · exact (ea.1 (1 + k) (by omega) (by omega) (by omega) (by omega)).trans (hrw k hk)
  · exact (ea.1 (5 + s) (by omega) (by omega) (by omega) (by omega)).trans (hrf s hs)
  · exact (ea.1 7 (by omega) (by omega) (by omega) (by omega)).trans hr7
theorem fields_loop {z n : Nat} (hz : 1000 ≤ z) {bs : Nat → Nat} {bytes tape : Nat → Int32} (hB : TB n bs bytes tape) {t : Int} (ht : 0 ≤ t ∧ t ≤ 2) {fo : Nat → Nat} (hfo : ∀ s, s < 2 → fo s ≤ 7) {fields ties : Int32} (htt : ties = i3 t) {forces : Nat → Int32} (hf : ∀ s, s < 2 → forces s = i3 (fo s : Nat)) (many : Nat → Int32) (codes bList : Nat → Nat → Int32) (bMany : Nat → Int32) (pList pWei pDrawn : Nat → Nat → Int32) (pMany pAll pTurns : Nat → Int32) (fault : Int32) : ∀ (rem w w' c p p0 : Nat) (V : Nat → Int) (worth read : Nat → Int32) (kind from' behind fromR next token value number : Int32), c + rem = 4 → rem + 2 ≤ w → rem + 2 ≤ w' → p0 ≤ p → TCk bs n p kind from' behind → TRk bs n p fromR next token value → (c = 0 ∨ tkK bs n p = 2) → (∀ k, k < c → 1 ≤ V k) → sm c V ≤ 8 → (∀ k, k < c → worth k = i3 (V k)) → read 0 = i3 c → (∀ k, k < c → read (1 + k) = i3 (V k)) → (∀ s, s < 2 → read (5 + s) = i3 (fo s)) → read 7 = i3 t → FLo bs n p0 ties forces bList pList pWei (F8_readFields_b12 z w (i3 (8 - sm c V)) (i3 c) fault bytes kind from' behind (i3 n) fields worth forces many codes bMany pDrawn pMany pAll pTurns) (F10_fieldsLine_b15 z w' 1 1 read tape (i3 n) fromR next token value 0 number) := by
  intro rem
  induction rem with
  | zero =>
    intro w w' c p p0 V worth read kind from' behind fromR next token value number hc hw hw' hp0 hC hR hk hv hsm hwo hr0 hrw hrf hr7
    obtain ⟨w, rfl⟩ : ∃ v, w = v + 1 := ⟨w - 1, by omega⟩
    obtain ⟨w', rfl⟩ : ∃ v, w' = v + 2 := ⟨w' - 2, by omega⟩
    obtain rfl : c = 4 := by omega
    have sb := sm_nonneg (n := 4) (f := V) (fun k hk => by have := hv k hk; omega)
    have k2 : tkK bs n p = 2 := by omega
    obtain ⟨c1, c2, c3, c4⟩ := id hC
    obtain ⟨r1, r2, r3, r4, r5⟩ := id hR
    have s3 := spc_bd bs c1
    have n3 := hB.1
    have dead : ∀ (e : Int) (num' : Int32), F10_fieldsLine_b59 z 0 read tape (i3 n) fromR next token value (i3 e) num' (fun q0 q1 q2 q3 q4 q5 q6 q7 q8 q9 q10 => F10_fieldsLine_b15 z (w' + 1) q0 q1 q2 q3 q4 q5 q6 q7 q8 q9 q10) = some (0, upd (upd (upd (upd read 8 0) 15 0) 32 0) 39 0, fromR, next, token, value, i3 e, num') := by
      intro e num'
      have d0 : ∀ s0, F10_fieldsLine_b15 z (w' + 1) 0 s0 read tape (i3 n) fromR next token value (i3 e) num' = some (0, upd (upd (upd (upd read 8 0) 15 0) 32 0) 39 0, fromR, next, token, value, i3 e, num') := by
        intro s0
        unfold F10_fieldsLine_b15 F10_fieldsLine_b111
        rw [if_pos rfl, F10_endsBooks_ok (by omega)]
        rfl
      unfold F10_fieldsLine_b59 F10_fieldsLine_b94 F10_fieldsLine_b107
      rw [if_pos rfl]
      by_cases tq : token = 2
      · rw [if_pos tq]; exact d0 1
      · rw [if_neg tq]; exact d0 0
    unfold F8_readFields_b12 F8_readFields_b27 F8_readFields_b43
    rw [if_neg (show ¬ i3 ((4 : Nat) : Int) = 0 by decide), if_pos (show kind = 2 by rw [c2, k2]; rfl)]
    unfold F10_fieldsLine_b15
    rw [if_neg n10, if_neg n10, F10_worths_ok (by omega) (by omega) hr0 hrw]
    simp only [Option.bind_some]
    obtain ⟨y1, y2⟩ := isNum_ok hz hB hC hR (LO := 1) (HI := i3 (8 - sm 4 V)) (lo := 1) (hi := 8 - sm 4 V) rfl rfl (by omega) (by omega) (by omega) (by omega) fault number
    rw [i3_l8, i3_sub]
    by_cases q : tkK bs n p = 2 ∧ 1 ≤ vlu bs n p ∧ vlu bs n p ≤ 8 - sm 4 V
    · obtain ⟨a1, a2⟩ := y1 q
      rw [a1, a2]
      simp only [Option.bind_some]
      rw [if_neg n10, if_neg n10, if_neg (show ¬ i3 ((4 : Nat) : Int) < 4 by decide), hr0, if_pos (show i3 ((4 : Nat) : Int) = 4 from rfl), c3, r2, refuse_ok (C := 4) (c := 4) rfl, bad_ok (C := 4) (c := 4) rfl]
      simp only [Option.bind_some]
      rw [← r2, dead]
      exact Or.inr ⟨8 * (spc bs n p : Int) + 4, _, _, by omega, by omega, rfl, rfl, rfl, rfl, rfl, rfl⟩
    · obtain ⟨e, num', e1, e2, a1, a2⟩ := y2 q
      rw [a1, a2]
      simp only [Option.bind_some, if_true]
      rw [dead]
      exact Or.inr ⟨e, _, _, e1, e2, rfl, rfl, rfl, rfl, rfl, rfl⟩
  | succ rem ih =>
    intro w w' c p p0 V worth read kind from' behind fromR next token value number hc hw hw' hp0 hC hR hk hv hsm hwo hr0 hrw hrf hr7
    obtain ⟨w, rfl⟩ : ∃ v, w = v + 2 := ⟨w - 2, by omega⟩
    obtain ⟨w', rfl⟩ : ∃ v, w' = v + 2 := ⟨w' - 2, by omega⟩
    have sb := sm_nonneg (n := c) (f := V) (fun k hk => by have := hv k hk; omega)
    obtain ⟨c1, c2, c3, c4⟩ := id hC
    obtain ⟨r1, r2, r3, r4, r5⟩ := id hR
    have s3 := spc_bd bs c1
    have n3 := hB.1
    have tf := tk_facts bs c1
    have dead : ∀ (e : Int) (num' : Int32), F10_fieldsLine_b59 z 0 read tape (i3 n) fromR next token value (i3 e) num' (fun q0 q1 q2 q3 q4 q5 q6 q7 q8 q9 q10 => F10_fieldsLine_b15 z (w' + 1) q0 q1 q2 q3 q4 q5 q6 q7 q8 q9 q10) = some (0, upd (upd (upd (upd read 8 0) 15 0) 32 0) 39 0, fromR, next, token, value, i3 e, num') := by
      intro e num'
      have d0 : ∀ s0, F10_fieldsLine_b15 z (w' + 1) 0 s0 read tape (i3 n) fromR next token value (i3 e) num' = some (0, upd (upd (upd (upd read 8 0) 15 0) 32 0) 39 0, fromR, next, token, value, i3 e, num') := by
        intro s0
        unfold F10_fieldsLine_b15 F10_fieldsLine_b111
        rw [if_pos rfl, F10_endsBooks_ok (by omega)]
        rfl
      unfold F10_fieldsLine_b59 F10_fieldsLine_b94 F10_fieldsLine_b107
      rw [if_pos rfl]
      by_cases tq : token = 2
      · rw [if_pos tq]; exact d0 1
      · rw [if_neg tq]; exact d0 0
    have e12 : F8_readFields_b12 z (w + 2) (i3 (8 - sm c V)) (i3 c) fault bytes kind from' behind (i3 n) fields worth forces many codes bMany pDrawn pMany pAll pTurns = F8_readFields_b27 z (i3 (8 - sm c V)) (i3 c) fault bytes kind from' behind (i3 n) fields worth forces many codes bMany pDrawn pMany pAll pTurns (fun q0 q1 q2 q3 q4 q5 q6 q7 q8 q9 q10 q11 q12 q13 q14 q15 q16 q17 => F8_readFields_b12 z (w + 1) q0 q1 q2 q3 q4 q5 q6 q7 q8 q9 q10 q11 q12 q13 q14 q15 q16 q17) := by
      conv => lhs; unfold F8_readFields_b12
      by_cases c0 : c = 0
      · subst c0; rw [if_pos (show i3 ((0 : Nat) : Int) = 0 from rfl)]
      · rw [if_neg (show ¬ i3 (c : Int) = 0 by rw [i3_l0, i3_eq (by omega) (by omega) (by omega) (by omega)]; omega), if_pos (show kind = 2 by rw [c2, show tkK bs n p = 2 by omega]; rfl)]
    rw [e12]
    unfold F8_readFields_b27
    conv => arg 10; unfold F10_fieldsLine_b15
    rw [if_neg n10, if_neg n10, F10_worths_ok (by omega) (by omega) hr0 hrw]
    simp only [Option.bind_some]
    obtain ⟨y1, y2⟩ := isNum_ok hz hB hC hR (LO := 1) (HI := i3 (8 - sm c V)) (lo := 1) (hi := 8 - sm c V) rfl rfl (by omega) (by omega) (by omega) (by omega) fault number
    rw [i3_l8, i3_sub]
    by_cases q : tkK bs n p = 2 ∧ 1 ≤ vlu bs n p ∧ vlu bs n p ≤ 8 - sm c V
    · obtain ⟨a1, a2⟩ := y1 q
      obtain ⟨k2, f2, b2, es, hC2⟩ := TC_step hz hB hC (by omega)
      obtain ⟨g2, x2, t2, v2, eg, hR2⟩ := TR_go hz hB hR
      have e1 : (1 : Int32) + i3 (c : Int) = i3 ((1 + c : Nat) : Int) := by rw [i3_l1, i3_add]; rfl
      rw [a1, a2]
      simp only [Option.bind_some]
      rw [if_neg n10, if_neg n10, if_pos (show i3 (c : Int) < 4 by rw [i3_l4, i3_lt (by omega) (by omega) (by omega) (by omega)]; omega), amt_ok hz hB hC q.1, es, hr0, if_neg (show ¬ i3 (c : Int) = 4 by rw [i3_l4, i3_eq (by omega) (by omega) (by omega) (by omega)]; omega)]
      simp (disch := omega) only [Option.bind_some, xg_in, i3_xnN]
      unfold F10_fieldsLine_b59
      rw [if_neg n10, hr0, e1, eg]
      simp (disch := omega) only [Option.bind_some, xg_in, i3_xnN]
      have hV' : ∀ k, k < c + 1 → 1 ≤ (fun k => if k = c then vlu bs n p else V k) k := fun k hk => by
        show 1 ≤ (if k = c then vlu bs n p else V k)
        split
        · exact q.2.1
        · exact hv k (by omega)
      have hsm' : sm (c + 1) (fun k => if k = c then vlu bs n p else V k) = sm c V + vlu bs n p := by
        show sm c (fun k => if k = c then vlu bs n p else V k) + (if c = c then vlu bs n p else V c) = _
        rw [if_pos rfl, sm_congr (g := V) (fun k hk => if_neg (by omega))]
      have hw' : ∀ k, k < c + 1 → upd worth c (i3 (vlu bs n p)) k = i3 ((fun k => if k = c then vlu bs n p else V k) k) := fun k hk => by
        show upd worth c (i3 (vlu bs n p)) k = i3 (if k = c then vlu bs n p else V k)
        by_cases e : k = c
        · subst e; rw [upd_same, if_pos rfl]
        · rw [upd_diff _ _ e, if_neg e]; exact hwo k (by omega)
      have e0 : upd read (1 + c) (i3 (vlu bs n p)) 0 = i3 (c : Int) := (upd_diff _ _ (by omega)).trans hr0
      have hs1 : upd (upd read (1 + c) (i3 (vlu bs n p))) 0 (upd read (1 + c) (i3 (vlu bs n p)) 0 + 1) 0 = i3 ((c + 1 : Nat) : Int) := by
        rw [upd_same, e0, i3_l1, i3_add]; rfl
      have hs2 : ∀ k, k < c + 1 → upd (upd read (1 + c) (i3 (vlu bs n p))) 0 (upd read (1 + c) (i3 (vlu bs n p)) 0 + 1) (1 + k) = i3 ((fun k => if k = c then vlu bs n p else V k) k) := fun k hk => by
        rw [upd_diff _ _ (by omega)]
        show upd read (1 + c) (i3 (vlu bs n p)) (1 + k) = i3 (if k = c then vlu bs n p else V k)
        by_cases e : k = c
        · subst e; rw [upd_same, if_pos rfl]
        · rw [upd_diff _ _ (by omega), if_neg e]; exact hrw k (by omega)
      have hs3 : ∀ s, s < 2 → upd (upd read (1 + c) (i3 (vlu bs n p))) 0 (upd read (1 + c) (i3 (vlu bs n p)) 0 + 1) (5 + s) = i3 (fo s) := fun s hs => by
        rw [upd_diff _ _ (by omega), upd_diff _ _ (by omega)]; exact hrf s hs
      have hs4 : upd (upd read (1 + c) (i3 (vlu bs n p))) 0 (upd read (1 + c) (i3 (vlu bs n p)) 0 + 1) 7 = i3 t := by
        rw [upd_diff _ _ (by omega), upd_diff _ _ (by omega)]; exact hr7
      unfold F10_fieldsLine_b94 F10_fieldsLine_b107
      rw [show i3 (c : Int) + 1 = i3 ((c + 1 : Nat) : Int) from by rw [i3_l1, i3_add]; rfl]
      have tf2 := (tk_facts bs hC2.1).1
      by_cases k2' : tkK bs n (tkN bs n p) = 2
      · rw [if_pos (show t2 = 2 by rw [hR2.2.2.2.1, k2']; rfl), i3_sub, show 8 - sm c V - vlu bs n p = 8 - sm (c + 1) (fun k => if k = c then vlu bs n p else V k) from by rw [hsm']; omega]
        exact ih (w + 1) (w' + 1) (c + 1) (tkN bs n p) p0 _ _ _ _ _ _ _ _ _ _ _ (by omega) (by omega) (by omega) (by omega) hC2 hR2 (Or.inr k2') hV' (by rw [hsm']; omega) hw' hs1 hs2 hs3 hs4
      · rw [if_neg (show ¬ t2 = 2 by rw [hR2.2.2.2.1, i3_l2, i3_eq (by omega) (by omega) (by omega) (by omega)]; omega)]
        exact fields_fin hz hC2 hR2 k2' (by have := tf.2.2.2.1 (by omega); omega) (by omega) (by omega) hV' (by rw [hsm']; omega) ht hfo htt hw' hf hs1 hs2 hs3 hs4 many codes bList bMany pList pWei pDrawn pMany pAll pTurns _ _ _ w w'
    · obtain ⟨e, num', e1, e2, a1, a2⟩ := y2 q
      rw [a1, a2]
      simp only [Option.bind_some, if_true]
      rw [dead]
      exact Or.inr ⟨e, _, _, e1, e2, rfl, rfl, rfl, rfl, rfl, rfl⟩
theorem fields_line {z n p : Nat} (hz : 1000 ≤ z) {bs : Nat → Nat} {bytes tape : Nat → Int32} (hB : TB n bs bytes tape) {kind from' behind : Int32} (hC : TCk bs n p kind from' behind) {fromR next token value : Int32} (hR : TRk bs n p fromR next token value) (h1 : tkK bs n p = 1) {fields ties : Int32} {worth forces many : Nat → Int32} {codes bList : Nat → Nat → Int32} {bMany : Nat → Int32} {pList pWei : Nat → Nat → Int32} {pMany pAll read : Nat → Int32} (hS : RS fields ties worth forces many codes bList bMany pList pWei pMany pAll read) (pDrawn : Nat → Nat → Int32) (pTurns : Nat → Int32) (fault number : Int32) : FLo bs n (tkN bs n p) ties forces bList pList pWei (F8_readFields z fault bytes kind from' behind (i3 n) fields worth forces many codes bMany pDrawn pMany pAll pTurns) (F10_fieldsLine z read tape (i3 n) fromR next token value 0 number) := by
  obtain ⟨k1, f1, b1, e1, hC1⟩ := TC_step hz hB hC (by omega)
  obtain ⟨g1, x1, t1, v1, e2, hR1⟩ := TR_go hz hB hR
  obtain ⟨K, W, t, fo, bN, bI, pN, pI, pW, ⟨hV, z2, z3, z4, z5, z6, z7, z8⟩, hT, hBk, hPl⟩ := hS
  unfold F8_readFields F10_fieldsLine
  rw [e1, e2]
  simp only [Option.bind_some]
  exact fields_loop hz hB ⟨hV.2.2.2.2.1, hV.2.2.2.2.2⟩ z2 z4 z6 many codes bList bMany pList pWei pDrawn pMany pAll pTurns fault 4 z z 0 (tkN bs n p) (tkN bs n p) (fun _ => 0) worth (upd read 0 0) _ _ _ _ _ _ _ _ (by omega) (by omega) (by omega) (Nat.le_refl _) hC1 hR1 (Or.inl rfl) (fun k hk => absurd hk (Nat.not_lt_zero k)) (by show (0 : Int) ≤ 8; omega) (fun k hk => absurd hk (Nat.not_lt_zero k)) (upd_same _ _ _) (fun k hk => absurd hk (Nat.not_lt_zero k)) (fun s hs => (upd_diff _ _ (by omega)).trans (hT.2.2.1 s hs)) ((upd_diff _ _ (by omega)).trans hT.2.2.2)
