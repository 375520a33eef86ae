/-! ===== text: both ===== -/
theorem BKr_56 {K : Nat} {fo bN : Nat → Nat} {bI : Nat → Nat → Nat} {bList : Nat → Nat → Int32} {bMany told told' : Nat → Int32} (hB : BKr K fo bN bI bList bMany told) (h : ∀ j, j < 56 → told' j = told j) : BKr K fo bN bI bList bMany told' := fun s hs => by
  obtain ⟨h1, h2, h3, h4, h5⟩ := hB s hs
  exact ⟨h1, h2, (h _ (by omega)).trans h3, fun k hk => ⟨(h4 k hk).1, (h4 k hk).2.1, (h _ (by omega)).trans (h4 k hk).2.2⟩, h5⟩
theorem PLr_56 {K : Nat} {fo pN : Nat → Nat} {pI : Nat → Nat → Nat} {pW : Nat → Nat → Int} {pList pWei : Nat → Nat → Int32} {pMany pAll told told' : Nat → Int32} (hP : PLr K fo pN pI pW pList pWei pMany pAll told) (h : ∀ j, j < 56 → told' j = told j) : PLr K fo pN pI pW pList pWei pMany pAll told' := fun s hs => by
  obtain ⟨h1, h2, h3, h4, h5, h6⟩ := hP s hs
  exact ⟨h1, h2, (h _ (by omega)).trans h3, h4, fun k hk => by obtain ⟨a1, a2, a3, a4, a5, a6, a7⟩ := h5 k hk; exact ⟨a1, a2, a3, a4, a5, (h _ (by omega)).trans a6, (h _ (by omega)).trans a7⟩, h6⟩
theorem b41_ok {z : Nat} (thrown : Int32) (told : Nat → Int32) (manym eights gains notes seen turns drawn tape : Nat → Int32) (taped size fr nx tk vl fault number laid : Int32) (cn : Nat) : ∀ (rem w j : Nat) (read : Nat → Int32), j + rem = 56 → rem < w → (∀ j', j' < j → read j' = told j') → ∃ read', F10_text_b41 z w (i3 j) thrown told read manym eights gains notes seen turns drawn tape taped size fr nx tk vl fault number laid cn = F10_text_b65 z thrown told read' manym eights gains notes seen turns drawn tape taped size fr nx tk vl fault number laid cn ∧ ∀ j, j < 56 → read' j = told j := by
  intro rem
  induction rem with
  | zero =>
    intro w j read hj hw h
    obtain ⟨w, rfl⟩ : ∃ v, w = v + 1 := ⟨w - 1, by omega⟩
    refine ⟨read, ?_, fun j' hj' => h j' (by omega)⟩
    unfold F10_text_b41
    rw [if_pos (by rw [i3_l56, i3_le (by omega) (by omega) (by omega) (by omega)]; omega)]
  | succ rem ih =>
    intro w j read hj hw h
    obtain ⟨w, rfl⟩ : ∃ v, w = v + 1 := ⟨w - 1, by omega⟩
    unfold F10_text_b41
    rw [if_neg (by rw [i3_l56, i3_le (by omega) (by omega) (by omega) (by omega)]; omega)]
    simp (disch := omega) only [xg_in, i3_xnN]
    rw [show i3 (j : Int) + 1 = i3 ((j + 1 : Nat) : Int) from by rw [i3_l1, i3_add]; rfl]
    refine ih w (j + 1) _ (by omega) (by omega) (fun j' hj' => ?_)
    by_cases e : j' = j
    · subst e; exact upd_same _ _ _
    · rw [upd_diff _ _ e]; exact h j' (by omega)
theorem b135_ok {z : Nat} (x2 thrown : Int32) (read : Nat → Int32) (manym eights gains notes seen turns drawn tape : Nat → Int32) (taped size fr nx tk vl fault number laid : Int32) (cn : Nat) : ∀ (rem w j : Nat) (told : Nat → Int32), j + rem = 56 → rem < w → (∀ j', j' < j → told j' = read j') → ∃ told', F10_text_b135 z w x2 (i3 j) thrown told read manym eights gains notes seen turns drawn tape taped size fr nx tk vl fault number laid cn = F10_text_b162 z x2 thrown told' read manym eights gains notes seen turns drawn tape taped size fr nx tk vl fault number laid cn ∧ ∀ j, j < 56 → told' j = read j := by
  intro rem
  induction rem with
  | zero =>
    intro w j told hj hw h
    obtain ⟨w, rfl⟩ : ∃ v, w = v + 1 := ⟨w - 1, by omega⟩
    refine ⟨told, ?_, fun j' hj' => h j' (by omega)⟩
    unfold F10_text_b135
    rw [if_pos (by rw [i3_l56, i3_le (by omega) (by omega) (by omega) (by omega)]; omega)]
  | succ rem ih =>
    intro w j told hj hw h
    obtain ⟨w, rfl⟩ : ∃ v, w = v + 1 := ⟨w - 1, by omega⟩
    unfold F10_text_b135
    rw [if_neg (by rw [i3_l56, i3_le (by omega) (by omega) (by omega) (by omega)]; omega)]
    simp (disch := omega) only [xg_in, i3_xnN]
    rw [show i3 (j : Int) + 1 = i3 ((j + 1 : Nat) : Int) from by rw [i3_l1, i3_add]; rfl]
    refine ih w (j + 1) _ (by omega) (by omega) (fun j' hj' => ?_)
    by_cases e : j' = j
    · subst e; exact upd_same _ _ _
    · rw [upd_diff _ _ e]; exact h j' (by omega)
theorem call_text {z T K : Nat} (hz : 1000 ≤ z) {W : Nat → Int} {t : Int} {fo : Nat → Nat} {fields : Int32} {ties : Int32} {worth : Nat → Int32} {forces : Nat → Int32} {many : Nat → Int32} {codes : Nat → Nat → Int32} {bList : Nat → Nat → Int32} {bMany : Nat → Int32} {pList : Nat → Nat → Int32} {pWei : Nat → Nat → Int32} {pDrawn : Nat → Nat → Int32} {pMany : Nat → Int32} {pAll : Nat → Int32} {pTurns : Nat → Int32} (hX : SX K W t fo fields ties worth forces many codes) {told manym eights gains : Nat → Int32} (hM : SM K W t fo told manym eights gains) {bN : Nat → Nat} {bI : Nat → Nat → Nat} (hBk : BKr K fo bN bI bList bMany told) {pN : Nat → Nat} {pI : Nat → Nat → Nat} {pW : Nat → Nat → Int} (hPl : PLr K fo pN pI pW pList pWei pMany pAll told) {tu : Nat → Nat} {dr : Nat → Nat → Nat} {turns drawn : Nat → Int32} (hT : TNr T tu dr pTurns pDrawn turns drawn) {nN : Nat → Nat} {nS ntS : Nat → Nat → Nat} {ntSeen : Nat → Nat → Int32} {ntMany notes seen : Nat → Int32} (hN : NTr K fo nN nS ntSeen ntMany notes seen) {tN : Nat} {bs : Nat → Nat} {tBytes : Nat → Int32} {tMany : Int32} {tape : Nat → Int32} {taped : Int32} (hTp : TPr tN bs tBytes tMany tape taped) {kept : Nat → Nat → Int32} {vMany : Nat → Int32} {vTurns stale : Int32} (hSx : SVx K W t fo kept vMany vTurns stale) {isLeft : Nat → Int32} {went laid : Int32} (hSm : SVm K W t fo isLeft went laid) {fives : Nat → Int32} (hF : FVr fives) {chance state : Int32} (hch : chance = state) (x1 thrown lfault tkind tfrom tbehind tend : Int32) (s_fields : Int32) (s_ties : Int32) (s_worth : Nat → Int32) (s_forces : Nat → Int32) (s_many : Nat → Int32) (s_codes : Nat → Nat → Int32) (s_bList : Nat → Nat → Int32) (s_bMany : Nat → Int32) (s_pList : Nat → Nat → Int32) (s_pWei : Nat → Nat → Int32) (s_pDrawn : Nat → Nat → Int32) (s_pMany : Nat → Int32) (s_pAll : Nat → Int32) (s_pTurns : Nat → Int32) (read : Nat → Int32) (size from' next token value fault number : Int32) : ∃ v9 v10, F9_text z x1 fields ties worth forces many codes bList bMany pList pWei pDrawn pMany pAll pTurns lfault tBytes tMany tkind tfrom tbehind tend s_fields s_ties s_worth s_forces s_many s_codes s_bList s_bMany s_pList s_pWei s_pDrawn s_pMany s_pAll s_pTurns ntSeen ntMany stale = some v9 ∧ F10_text z x1 thrown told read manym eights gains notes seen turns drawn tape taped size from' next token value fault number laid = some v10 ∧ v10.1 = v9.1 ∧ v10.2.1 = 0 ∧ Rl (T + 1) chance v9.2.1 v9.2.2.1 v9.2.2.2.1 v9.2.2.2.2.1 v9.2.2.2.2.2.1 v9.2.2.2.2.2.2.1 v9.2.2.2.2.2.2.2.1 v9.2.2.2.2.2.2.2.2.1 v9.2.2.2.2.2.2.2.2.2.1 v9.2.2.2.2.2.2.2.2.2.2.1 v9.2.2.2.2.2.2.2.2.2.2.2.1 v9.2.2.2.2.2.2.2.2.2.2.2.2.1 v9.2.2.2.2.2.2.2.2.2.2.2.2.2.1 v9.2.2.2.2.2.2.2.2.2.2.2.2.2.2.1 tBytes v9.2.2.2.2.2.2.2.2.2.2.2.2.2.2.2.2.1 v9.2.2.2.2.2.2.2.2.2.2.2.2.2.2.2.2.2.2.2.2.2.2.2.2.2.2.2.2.2.2.2.2.2.2.2.1 v9.2.2.2.2.2.2.2.2.2.2.2.2.2.2.2.2.2.2.2.2.2.2.2.2.2.2.2.2.2.2.2.2.2.2.2.2.1 kept vMany vTurns v9.2.2.2.2.2.2.2.2.2.2.2.2.2.2.2.2.2.2.2.2.2.2.2.2.2.2.2.2.2.2.2.2.2.2.2.2.2 v10.2.2.1 v10.2.2.2.2.1 v10.2.2.2.2.2.1 v10.2.2.2.2.2.2.1 v10.2.2.2.2.2.2.2.1 v10.2.2.2.2.2.2.2.2.1 v10.2.2.2.2.2.2.2.2.2.1 v10.2.2.2.2.2.2.2.2.2.2.1 state tape v10.2.2.2.2.2.2.2.2.2.2.2.1 fives isLeft went v10.2.2.2.2.2.2.2.2.2.2.2.2.2.2.2.2.2.2.2 := by
  obtain ⟨a, rfl, h1, h2⟩ := i3_ex x1
  obtain ⟨t1, t2, t3, t4⟩ := id hTp
  have hV := hX.1
  have same : Rl (T + 1) chance fields ties worth forces many codes bList bMany pList pWei pDrawn pMany pAll pTurns tBytes tMany ntSeen ntMany kept vMany vTurns stale told manym eights gains notes seen turns drawn state tape taped fives isLeft went laid := ⟨K, W, t, fo, bN, bI, pN, pI, pW, tu, dr, nN, nS, tN, bs, hX, hM, hBk, hPl, TNr_mono (Nat.le_succ T) hT, hN, hTp, hSx, hSm, hF, hch⟩
  have same0 : Rl (T + 1) chance fields ties worth forces many codes bList bMany pList pWei pDrawn pMany pAll pTurns tBytes 0 ntSeen ntMany kept vMany vTurns stale told manym eights gains notes seen turns drawn state tape 0 fives isLeft went laid := ⟨K, W, t, fo, bN, bI, pN, pI, pW, tu, dr, nN, nS, 0, bs, hX, hM, hBk, hPl, TNr_mono (Nat.le_succ T) hT, hN, ⟨by omega, rfl, rfl, fun k hk => absurd hk (Nat.not_lt_zero k)⟩, hSx, hSm, hF, hch⟩
  have hwi : F10_within (i3 a) 0 taped = some (if 0 ≤ a ∧ a ≤ (tN : Int) then 1 else 0) := by rw [t3]; exact within10 (l := 0) h1 h2 (by omega) (by omega) (by omega) (by omega)
  unfold F9_text F10_text
  rw [xgQ (decide_eq_true (show (0 : Nat) + 0 ≤ 1100 by omega)), hwi]
  simp only [Option.bind_some]
  by_cases ha : 0 ≤ a ∧ a ≤ (tN : Int)
  · obtain ⟨n, rfl⟩ : ∃ n : Nat, a = n := ⟨a.toNat, by omega⟩
    have hB : TB n bs tBytes tape := ⟨by omega, fun k hk => t4 k (by omega)⟩
    rw [if_pos ha, if_neg n10, if_neg (show ¬ i3 (n : Int) < 0 by rw [i3_l0, i3_lt (by omega) (by omega) (by omega) (by omega)]; omega), t2, if_pos (show i3 (n : Int) ≤ i3 (tN : Nat) by rw [i3_le (by omega) (by omega) (by omega) (by omega)]; omega)]
    obtain ⟨q, eq, q1, q2, q3, q4⟩ := copy_ok (z := z) (by omega) s_fields s_ties s_worth s_forces s_many s_codes s_bList s_bMany s_pList s_pWei s_pDrawn s_pMany s_pAll s_pTurns fields ties worth forces many codes bList bMany pList pWei pDrawn pMany pAll pTurns
    obtain ⟨read1, er, hr⟩ := b41_ok (z := z) 0 told manym eights gains notes seen turns drawn tape 0 (i3 n) from' 0 token value 0 number laid 0 56 z 0 read (by omega) (by omega) (fun j hj => absurd hj (Nat.not_lt_zero j))
    have er' : F10_text_b41 z z 0 0 told read manym eights gains notes seen turns drawn tape 0 (i3 n) from' 0 token value 0 number laid 0 = _ := er
    have hS : RS q.1 q.2.1 q.2.2.1 q.2.2.2.1 q.2.2.2.2.1 q.2.2.2.2.2.1 q.2.2.2.2.2.2.1 q.2.2.2.2.2.2.2.1 q.2.2.2.2.2.2.2.2.1 q.2.2.2.2.2.2.2.2.2.1 q.2.2.2.2.2.2.2.2.2.2.2.1 q.2.2.2.2.2.2.2.2.2.2.2.2.1 read1 := by
      rw [q1, q2]
      exact RS_agree hX ⟨(hr 0 (by omega)).trans hM.2.2.1, fun k hk => (hr _ (by have := hV.2.1; omega)).trans (hM.2.2.2.1 k hk), fun s hs => (hr _ (by omega)).trans (hM.2.2.2.2.1 s hs), (hr 7 (by omega)).trans hM.2.2.2.2.2.1⟩ (BKr_56 hBk (fun j hj => hr j hj)) (PLr_56 hPl (fun j hj => hr j hj)) q3 q4
    obtain ⟨nb, es, hnb⟩ := step_ok (z := z) (by omega) hB (p := 0) (by omega) tkind tfrom
    obtain ⟨vv, eg, hvv⟩ := go_ok (z := z) (by omega) hB (p := 0) (by omega) from' token value
    have es' : F7_step z tBytes tkind tfrom 0 (i3 n) = _ := es
    have eg' : F10_go z tape (i3 n) from' 0 token value = _ := eg
    have hC : TCk bs n 0 (i3 (tkK bs n 0 : Nat)) (i3 (spc bs n 0 : Nat)) nb := ⟨by omega, rfl, rfl, hnb⟩
    have hR : TRk bs n 0 (i3 (spc bs n 0 : Nat)) (i3 (tkN bs n 0 : Nat)) (i3 (tkK bs n 0 : Nat)) vv := ⟨by omega, rfl, rfl, rfl, hvv⟩
    rw [eq, er']
    simp only [Option.bind_some]
    unfold F8_read F7_begin F10_text_b65
    rw [if_neg (show ¬ i3 (tN : Nat) < i3 (n : Int) by rw [i3_lt (by omega) (by omega) (by omega) (by omega)]; omega), es', xgQ (decide_eq_true (show (0 : Nat) + 0 ≤ 1100 by omega)), eg']
    simp only [Option.bind_some]
    rw [xgQ (decide_eq_true (show (0 : Nat) + 14 ≤ 1100 by omega))]
    have tl := text_loop (z := z) hz hB 0 (i3 (tN : Nat)) 0 laid told manym eights gains notes seen turns drawn 59 z z 1 0 (0 + 14) lfault _ _ _ q.1 q.2.1 q.2.2.1 q.2.2.2.1 q.2.2.2.2.1 q.2.2.2.2.2.1 q.2.2.2.2.2.2.1 q.2.2.2.2.2.2.2.1 q.2.2.2.2.2.2.2.2.1 q.2.2.2.2.2.2.2.2.2.1 q.2.2.2.2.2.2.2.2.2.2.1 q.2.2.2.2.2.2.2.2.2.2.2.1 q.2.2.2.2.2.2.2.2.2.2.2.2.1 q.2.2.2.2.2.2.2.2.2.2.2.2.2 read1 _ _ _ _ number (by omega) (by omega) (by omega) (by omega) (by omega) (by omega) hC hR hS
    rcases tl with ⟨L', r9, read', a1, a2, a3, a4, num', cn', l1, l2, e9, f9, hS', hcn, e10⟩ | ⟨e, x2, r9, read', a1, a2, a3, a4, num', cn', l1, l2, e9, f9, hcn, e10⟩
    · have e9' : F8_read_b10 z z 1 lfault tBytes (i3 (tN : Nat)) (i3 (tkK bs n 0 : Nat)) (i3 (spc bs n 0 : Nat)) nb (i3 n) q.1 q.2.1 q.2.2.1 q.2.2.2.1 q.2.2.2.2.1 q.2.2.2.2.2.1 q.2.2.2.2.2.2.1 q.2.2.2.2.2.2.2.1 q.2.2.2.2.2.2.2.2.1 q.2.2.2.2.2.2.2.2.2.1 q.2.2.2.2.2.2.2.2.2.2.1 q.2.2.2.2.2.2.2.2.2.2.2.1 q.2.2.2.2.2.2.2.2.2.2.2.2.1 q.2.2.2.2.2.2.2.2.2.2.2.2.2 = some r9 := e9
      refine Exists.elim (?_ : ∃ v10', F10_text_b120 z (i3 (L' : Nat)) 1 0 told read' manym eights gains notes seen turns drawn tape 0 (i3 n) a1 a2 a3 a4 0 num' laid cn' = some v10' ∧ v10'.1 = i3 (L' : Nat) ∧ v10'.2.1 = 0 ∧ v10'.2.2.2.2.2.2.2.2.2.2.2.1 = 0 ∧ v10'.2.2.2.2.2.2.2.2.2.2.2.2.2.2.2.2.2.2.2 = 0 ∧ (∀ j, j < 56 → v10'.2.2.1 j = read' j) ∧ (∀ s, s < 2 → v10'.2.2.2.2.2.2.2.1 s = 0) ∧ (∀ k, k < 256 → v10'.2.2.2.2.2.2.2.2.1 k = 0) ∧ (∀ s, s < 2 → v10'.2.2.2.2.2.2.2.2.2.1 s = 0) ∧ (∀ j, j < 16 → v10'.2.2.2.2.2.2.2.2.2.2.1 j = 0) ∧ (∀ K W t fo, Vd K W t → (∀ s, s < 2 → fo s ≤ 7) → TD K W t fo read' → SM K W t fo v10'.2.2.1 v10'.2.2.2.2.1 v10'.2.2.2.2.2.1 v10'.2.2.2.2.2.2.1)) ?_
      · obtain ⟨K', W', t', fo', bN', bI', pN', pI', pW', hX', hT', hBk', hPl'⟩ := hS'
        unfold F10_text_b120
        rw [if_neg n10]
        obtain ⟨told', e1, h1'⟩ := b135_ok (z := z) (i3 (L' : Nat)) 0 read' manym eights gains notes seen turns drawn tape 0 (i3 n) a1 a2 a3 a4 0 num' laid cn' 56 z 0 told (by omega) (by omega) (fun j hj => absurd hj (Nat.not_lt_zero j))
        have e1' : F10_text_b135 z z (i3 (L' : Nat)) 0 0 told read' manym eights gains notes seen turns drawn tape 0 (i3 n) a1 a2 a3 a4 0 num' laid cn' = _ := e1
        obtain ⟨nt', sn', e2, n1', n2'⟩ := F10_endsNotes_ok (z := z) (by omega) notes seen
        obtain ⟨d1, e3, m1⟩ := F10_beginsTurns_ok (z := z) (s := 0) (by omega) (by omega) turns drawn
        obtain ⟨d2, e4, m2⟩ := F10_beginsTurns_ok (z := z) (s := 1) (by omega) (by omega) (upd turns 0 0) d1
        have e3' : F10_beginsTurns z 0 turns drawn = _ := e3
        have e4' : F10_beginsTurns z 1 (upd turns 0 0) d1 = _ := e4
        have K4 := hX'.1.2.1
        obtain ⟨my, ei, ga, e5, hM5⟩ := F10_lays_ok (z := z) hz (told := told') (many := manym) (eights := eights) (gains := gains) (il := laid) hX'.1 hX'.2.1 ((h1' 0 (by omega)).trans hT'.1) (fun k hk => (h1' _ (by omega)).trans (hT'.2.1 k hk)) (fun s hs => (h1' _ (by omega)).trans (hT'.2.2.1 s hs)) ((h1' 7 (by omega)).trans hT'.2.2.2)
        rw [e1']
        unfold F10_text_b162
        rw [xgQ (decide_eq_true (show cn' + 0 ≤ 1100 by omega)), e2]
        simp only [Option.bind_some]
        rw [xgQ (decide_eq_true (show cn' + 0 ≤ 1100 by omega)), e3']
        simp only [Option.bind_some]
        rw [xgQ (decide_eq_true (show cn' + 0 ≤ 1100 by omega)), e4']
        simp only [Option.bind_some]
        rw [xgQ (decide_eq_true (show cn' + 0 ≤ 1100 by omega)), e5]
        simp only [Option.bind_some]
        rw [xgQ (decide_eq_true (show cn' ≤ 1100 by omega))]
        refine ⟨_, rfl, rfl, rfl, rfl, rfl, h1', n1', n2', fun s hs => ?_, fun j hj => ?_, fun K W t fo hV hfo hTD => ?_⟩
        · show upd (upd turns 0 0) 1 0 s = 0
          rcases two_cases hs with rfl | rfl
          · rw [upd_diff _ _ (by omega), upd_same]
          · rw [upd_same]
        · show d2 j = 0
          rw [m2 j]
          by_cases c : 8 ≤ j
          · rw [if_pos ⟨by omega, by omega⟩]
          · rw [if_neg (fun h => by omega), m1 j, if_pos ⟨by omega, by omega⟩]
        · obtain ⟨my2, ei2, ga2, e52, hM52⟩ := F10_lays_ok (z := z) hz (told := told') (many := manym) (eights := eights) (gains := gains) (il := laid) hV hfo ((h1' 0 (by omega)).trans hTD.1) (fun k hk => (h1' _ (by have := hV.2.1; omega)).trans (hTD.2.1 k hk)) (fun s hs => (h1' _ (by omega)).trans (hTD.2.2.1 s hs)) ((h1' 7 (by omega)).trans hTD.2.2.2)
          rw [e5] at e52
          have e53 := Option.some.inj e52
          rw [Prod.mk.injEq, Prod.mk.injEq, Prod.mk.injEq] at e53
          obtain ⟨rfl, rfl, rfl, -⟩ := e53
          exact hM52
      · intro v10' ⟨g1, g2, g3, g4, g5, g6, g7, g8, g9, g10, g11⟩
        obtain ⟨dr1, ed1, hd1⟩ := F3_restart_ok (z := z) (by omega) (r9.2.2.2.2.2.2.2.2.2.2.2.2.2.2.2.2.1 0) (r9.2.2.2.2.2.2.2.2.2.2.2.2.2.2.2.2.2.2.2 0)
        obtain ⟨dr2, ed2, hd2⟩ := F3_restart_ok (z := z) (by omega) ((va_up r9.2.2.2.2.2.2.2.2.2.2.2.2.2.2.2.2.1 0 dr1) 1) ((va_up r9.2.2.2.2.2.2.2.2.2.2.2.2.2.2.2.2.2.2.2 0 0) 1)
        obtain ⟨sn2, nm2, ef, hf2⟩ := F9_forgetNotes_ok (z := z) (by omega) ntSeen ntMany
        rw [e9']
        simp only [Option.bind_some]
        rw [f9, if_pos (show (0 : Int32) ≤ i3 (L' : Nat) by rw [i3_l0, i3_le (by omega) (by omega) (by omega) (by omega)]; omega), ed1]
        simp only [Option.bind_some]
        rw [ed2]
        simp only [Option.bind_some]
        rw [ef]
        simp only [Option.bind_some]
        refine ⟨_, v10', rfl, e10.trans g1, g2, g3, ?_⟩
        obtain ⟨K', W', t', fo', bN', bI', pN', pI', pW', hX', hT', hBk', hPl'⟩ := hS'
        rw [g4, g5]
        refine ⟨K', W', t', fo', bN', bI', pN', pI', pW', fun _ => 0, fun _ _ => 0, fun _ => 0, fun _ _ => 0, 0, bs, hX', g11 K' W' t' fo' hX'.1 hX'.2.1 hT', BKr_56 hBk' (fun j hj => g6 j hj), PLr_56 hPl' (fun j hj => g6 j hj), fun s hs => ⟨Nat.zero_le _, ?_, g9 s hs, fun k hk => ⟨Nat.zero_le _, ?_, g10 _ (by omega)⟩⟩, fun s hs => ⟨Nat.zero_le _, (hf2 s hs).1, g7 s hs, fun i hi => ⟨Nat.zero_le _, ?_, ?_⟩⟩, ⟨by omega, rfl, rfl, fun k hk => absurd hk (Nat.not_lt_zero k)⟩, Or.inl rfl, Or.inl rfl, hF, hch⟩
        · rcases two_cases hs with rfl | rfl
          · show (va_up (va_up r9.2.2.2.2.2.2.2.2.2.2.2.2.2.2.2.2.2.2.2 0 (0 : Int32)) 1 (0 : Int32)) 0 = 0
            exact (va_up_ne _ _ (by omega)).trans (va_up_self _ _ _)
          · show (va_up (va_up r9.2.2.2.2.2.2.2.2.2.2.2.2.2.2.2.2.2.2.2 0 (0 : Int32)) 1 (0 : Int32)) 1 = 0
            exact va_up_self _ _ _
        · rcases two_cases hs with rfl | rfl
          · have e : (va_up (va_up r9.2.2.2.2.2.2.2.2.2.2.2.2.2.2.2.2.1 0 dr1) 1 dr2) 0 = dr1 := (va_up_ne _ _ (by omega)).trans (va_up_self _ _ _)
            show (va_up (va_up r9.2.2.2.2.2.2.2.2.2.2.2.2.2.2.2.2.1 0 dr1) 1 dr2) 0 k = 0
            rw [e, hd1 k, if_pos hk]
          · have e : (va_up (va_up r9.2.2.2.2.2.2.2.2.2.2.2.2.2.2.2.2.1 0 dr1) 1 dr2) 1 = dr2 := va_up_self _ _ _
            show (va_up (va_up r9.2.2.2.2.2.2.2.2.2.2.2.2.2.2.2.2.1 0 dr1) 1 dr2) 1 k = 0
            rw [e, hd2 k, if_pos hk]
        · have n0 := ns_bd hX'.1 (hX'.2.1 s hs)
          exact (hf2 s hs).2 i (by omega)
        · have n0 := ns_bd hX'.1 (hX'.2.1 s hs)
          exact g8 _ (by omega)
    · have e9' : F8_read_b10 z z 1 lfault tBytes (i3 (tN : Nat)) (i3 (tkK bs n 0 : Nat)) (i3 (spc bs n 0 : Nat)) nb (i3 n) q.1 q.2.1 q.2.2.1 q.2.2.2.1 q.2.2.2.2.1 q.2.2.2.2.2.1 q.2.2.2.2.2.2.1 q.2.2.2.2.2.2.2.1 q.2.2.2.2.2.2.2.2.1 q.2.2.2.2.2.2.2.2.2.1 q.2.2.2.2.2.2.2.2.2.2.1 q.2.2.2.2.2.2.2.2.2.2.2.1 q.2.2.2.2.2.2.2.2.2.2.2.2.1 q.2.2.2.2.2.2.2.2.2.2.2.2.2 = some r9 := e9
      have eb : F10_text_b120 z x2 0 0 told read' manym eights gains notes seen turns drawn tape 0 (i3 n) a1 a2 a3 a4 (i3 e) num' laid cn' = some (i3 (-2 - e), 0, told, read', manym, eights, gains, notes, seen, turns, drawn, 0, i3 n, a1, a2, a3, a4, i3 e, num', laid) := by
        unfold F10_text_b120
        rw [if_pos rfl, xgQ (decide_eq_true (show cn' ≤ 1100 by omega)), i3_m2, i3_sub]
      rw [e9']
      simp only [Option.bind_some]
      rw [f9, if_neg (show ¬ (0 : Int32) ≤ i3 (-2 - e) by rw [i3_l0, i3_le (by omega) (by omega) (by omega) (by omega)]; omega)]
      exact ⟨_, _, rfl, e10.trans eb, rfl, rfl, same0⟩
  · rw [if_neg ha]
    simp only [if_true]
    rw [xgQ (decide_eq_true (show (0 : Nat) ≤ 1100 by omega))]
    by_cases h0 : a < 0
    · rw [if_pos (show i3 a < 0 by rw [i3_l0, i3_lt (by omega) (by omega) (by omega) (by omega)]; exact h0)]
      exact ⟨_, _, rfl, rfl, rfl, rfl, same⟩
    · rw [if_neg (show ¬ i3 a < 0 by rw [i3_l0, i3_lt (by omega) (by omega) (by omega) (by omega)]; exact h0), t2, if_neg (show ¬ i3 a ≤ i3 (tN : Nat) by rw [i3_le (by omega) (by omega) (by omega) (by omega)]; omega), ← t2]
      exact ⟨_, _, rfl, rfl, rfl, rfl, same⟩
