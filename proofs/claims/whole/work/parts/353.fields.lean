/-! ===== calls: field, lose, forces, ties ===== -/
theorem F4_allWorth_ok {z K : Nat} (hz : 20 ≤ z) {W : Nat → Int} (hK : K ≤ 4) {worth : Nat → Int32} (hw : ∀ k, k < K → worth k = i3 (W k)) : F4_allWorth z (i3 K) worth = some (i3 (sm K W)) := by
  have loop : ∀ (rem w k : Nat), k + rem = K → rem < w → F4_allWorth_b4 z w (i3 (sm k W)) (i3 k) (i3 K) worth = some (i3 (sm K W)) := by
    intro rem
    induction rem with
    | zero =>
      intro w k hk hw
      obtain ⟨w, rfl⟩ : ∃ w', w = w' + 1 := ⟨w - 1, by omega⟩
      have e : k = K := by omega
      subst e
      unfold F4_allWorth_b4
      rw [if_pos (by rw [i3_le (by omega) (by omega) (by omega) (by omega)]; omega)]
    | succ rem ih =>
      intro w k hk hw'
      obtain ⟨w, rfl⟩ : ∃ w', w = w' + 1 := ⟨w - 1, by omega⟩
      unfold F4_allWorth_b4
      rw [if_neg (by rw [i3_le (by omega) (by omega) (by omega) (by omega)]; omega), xg_in _ (by omega) (by omega) (by omega), i3_xnN (by omega), hw k (by omega), i3_add, i3_l1, i3_add]
      exact ih w (k + 1) (by omega) (by omega)
  exact loop K z 0 (by omega) (by omega)
theorem F10_worths_ok {z K : Nat} (hz : 20 ≤ z) {W : Nat → Int} (hK : K ≤ 4) {told : Nat → Int32} (h0 : told 0 = i3 K) (hw : ∀ k, k < K → told (1 + k) = i3 (W k)) : F10_worths z told = some (i3 (sm K W)) := by
  have loop : ∀ (rem w k : Nat), k + rem = K → rem < w → F10_worths_b4 z w (i3 (sm k W)) (i3 k) told = some (i3 (sm K W)) := by
    intro rem
    induction rem with
    | zero =>
      intro w k hk hw
      obtain ⟨w, rfl⟩ : ∃ w', w = w' + 1 := ⟨w - 1, by omega⟩
      have e : k = K := by omega
      subst e
      unfold F10_worths_b4
      rw [h0, if_pos (by rw [i3_le (by omega) (by omega) (by omega) (by omega)]; omega)]
    | succ rem ih =>
      intro w k hk hw'
      obtain ⟨w, rfl⟩ : ∃ w', w = w' + 1 := ⟨w - 1, by omega⟩
      have e1 : (1 : Int32) + i3 (k : Int) = i3 ((1 + k : Nat) : Int) := by
        rw [i3_l1, i3_add]; congr 1
      unfold F10_worths_b4
      rw [h0, if_neg (by rw [i3_le (by omega) (by omega) (by omega) (by omega)]; omega), e1, xg_in _ (by omega) (by omega) (by omega), i3_xnN (by omega), hw k (by omega), i3_add, i3_l1, i3_add]
      exact ih w (k + 1) (by omega) (by omega)
  exact loop K z 0 (by omega) (by omega)
/-- both begin anew: what they hold then -/
def Fresh (K : Nat) (fo : Nat → Nat) (bMany pMany pAll pTurns : Nat → Int32) (pDrawn ntSeen : Nat → Nat → Int32) (ntMany told notes seen turns drawn : Nat → Int32) : Prop := ∀ s, s < 2 → bMany s = 0 ∧ pMany s = 0 ∧ pAll s = 0 ∧ pTurns s = 0 ∧ ntMany s = 0 ∧ told (8 + 24 * s) = 0 ∧ told (8 + 24 * s + 7) = 0 ∧ notes s = 0 ∧ turns s = 0 ∧ (∀ k, k < 8 → pDrawn s k = 0 ∧ drawn (8 * s + k) = 0) ∧ (∀ i, i < 120 → ntSeen s i = 0 ∧ seen (128 * s + i) = 0)
theorem fresh_Rl {T K : Nat} {W : Nat → Int} {t : Int} {fo : Nat → Nat} {chance fields ties : Int32} {worth forces many : Nat → Int32} {codes bList : Nat → Nat → Int32} {bMany : Nat → Int32} {pList pWei pDrawn : Nat → Nat → Int32} {pMany pAll pTurns tBytes : Nat → Int32} {tMany : Int32} {ntSeen : Nat → Nat → Int32} {ntMany : Nat → Int32} {kept : Nat → Nat → Int32} {vMany : Nat → Int32} {vTurns : Int32} {told manym eights gains notes seen turns drawn : Nat → Int32} {state : Int32} {tape : Nat → Int32} {taped : Int32} {fives isLeft : Nat → Int32} {went : Int32} {tN : Nat} {bs : Nat → Nat} (hX : SX K W t fo fields ties worth forces many codes) (hM : SM K W t fo told manym eights gains) (hF : Fresh K fo bMany pMany pAll pTurns pDrawn ntSeen ntMany told notes seen turns drawn) (hTp : TPr tN bs tBytes tMany tape taped) (hFv : FVr fives) (hch : chance = state) : Rl T chance fields ties worth forces many codes bList bMany pList pWei pDrawn pMany pAll pTurns tBytes tMany ntSeen ntMany kept vMany vTurns 1 told manym eights gains notes seen turns drawn state tape taped fives isLeft went 0 := by
  refine ⟨K, W, t, fo, fun _ => 0, fun _ _ => 0, fun _ => 0, fun _ _ => 0, fun _ _ => 0, fun _ => 0, fun _ _ => 0, fun _ => 0, fun _ _ => 0, tN, bs, hX, hM, fun s hs => ?_, fun s hs => ?_, fun s hs => ?_, fun s hs => ?_, hTp, Or.inl rfl, Or.inl rfl, hFv, hch⟩
  · obtain ⟨h1, h2, h3, h4, h5, h6, h7, h8, h9, h10, h11⟩ := hF s hs
    exact ⟨Nat.zero_le _, h1, h6, fun k hk => absurd hk (Nat.not_lt_zero k), fun k j hk => absurd hk (Nat.not_lt_zero k)⟩
  · obtain ⟨h1, h2, h3, h4, h5, h6, h7, h8, h9, h10, h11⟩ := hF s hs
    exact ⟨Nat.zero_le _, h2, h7, h3, fun k hk => absurd hk (Nat.not_lt_zero k), fun k j hk => absurd hk (Nat.not_lt_zero k)⟩
  · obtain ⟨h1, h2, h3, h4, h5, h6, h7, h8, h9, h10, h11⟩ := hF s hs
    exact ⟨Nat.zero_le _, h4, h9, fun k hk => ⟨Nat.zero_le _, (h10 k hk).1, (h10 k hk).2⟩⟩
  · obtain ⟨h1, h2, h3, h4, h5, h6, h7, h8, h9, h10, h11⟩ := hF s hs
    have n0 := ns_bd hX.1 (hX.2.1 s hs)
    exact ⟨Nat.zero_le _, h5, h8, fun i hi => ⟨Nat.zero_le _, (h11 i (by omega)).1, (h11 i (by omega)).2⟩⟩
theorem anew9 {z K : Nat} (hz : 1000 ≤ z) {W : Nat → Int} {t : Int} {fo : Nat → Nat} (hV : Vd K W t) (hfo : ∀ s, s < 2 → fo s ≤ 7) {worth forces : Nat → Int32} (hw : ∀ k, k < K → worth k = i3 (W k)) (hf : ∀ s, s < 2 → forces s = i3 (fo s : Nat)) (many : Nat → Int32) (codes : Nat → Nat → Int32) (bm : Nat → Int32) (pdr : Nat → Nat → Int32) (pm' pa pt : Nat → Int32) (ntSeen : Nat → Nat → Int32) (ntMany : Nat → Int32) (stale : Int32) : ∃ many' codes' bm2 pdr2 pm2 pa2 pt2 sn2 nm2, F9_beginAnew z (i3 K) forces many codes bm pdr pm' pa pt ntSeen ntMany stale = some (many', codes', bm2, pdr2, pm2, pa2, pt2, sn2, nm2, 1) ∧ SX K W t fo (i3 K) (i3 t) worth forces many' codes' ∧ ∀ s, s < 2 → bm2 s = 0 ∧ pm2 s = 0 ∧ pa2 s = 0 ∧ pt2 s = 0 ∧ (∀ k, k < 8 → pdr2 s k = 0) ∧ nm2 s = 0 ∧ ∀ k, k < 120 → sn2 s k = 0 := by
  obtain ⟨many', codes', bm2, pdr2, pm2, pa2, pt2, e1, h1, h2, h3⟩ := F4_renew_ok (z := z) (by omega) hV.1 hV.2.1 hfo hf many codes bm pdr pm' pa pt
  obtain ⟨sn2, nm2, e2, h4⟩ := F9_forgetNotes_ok (z := z) (by omega) ntSeen ntMany
  refine ⟨many', codes', bm2, pdr2, pm2, pa2, pt2, sn2, nm2, ?_, ⟨hV, hfo, rfl, rfl, hw, hf, h1, h2⟩, fun s hs => ?_⟩
  · unfold F9_beginAnew
    rw [e1]
    simp only [Option.bind_some]
    rw [e2]
    rfl
  · obtain ⟨a1, a2, a3, a4, a5⟩ := h3 s hs
    exact ⟨a1, a2, a3, a4, a5, (h4 s hs).1, (h4 s hs).2⟩
theorem fresh_of {K : Nat} {fo : Nat → Nat} {bm2 : Nat → Int32} {pdr2 : Nat → Nat → Int32} {pm2 pa2 pt2 : Nat → Int32} {sn2 : Nat → Nat → Int32} {nm2 told' notes' seen' turns' drawn' : Nat → Int32} (h : ∀ s, s < 2 → bm2 s = 0 ∧ pm2 s = 0 ∧ pa2 s = 0 ∧ pt2 s = 0 ∧ (∀ k, k < 8 → pdr2 s k = 0) ∧ nm2 s = 0 ∧ ∀ k, k < 120 → sn2 s k = 0) (h1 : ∀ s, s < 2 → told' (8 + 24 * s) = 0 ∧ told' (8 + 24 * s + 7) = 0 ∧ notes' s = 0 ∧ turns' s = 0) (h2 : ∀ k, k < 256 → seen' k = 0) (h3 : ∀ j, j < 16 → drawn' j = 0) : Fresh K fo bm2 pm2 pa2 pt2 pdr2 sn2 nm2 told' notes' seen' turns' drawn' := fun s hs => by
  obtain ⟨a1, a2, a3, a4, a5, a6, a7⟩ := h s hs
  obtain ⟨b1, b2, b3, b4⟩ := h1 s hs
  exact ⟨a1, a2, a3, a4, a6, b1, b2, b3, b4, fun k hk => ⟨a5 k hk, h3 _ (by omega)⟩, fun i hi => ⟨a7 i hi, h2 _ (by omega)⟩⟩
theorem within10' {a l h : Int} (h1 : -2147483648 ≤ a) (h2 : a < 2147483648) (h3 : -2147483648 ≤ l) (h4 : l < 2147483648) (h5 : -2147483648 ≤ h) (h6 : h < 2147483648) {L H : Int32} (eL : L = i3 l) (eH : H = i3 h) : (l ≤ a ∧ a ≤ h → F10_within (i3 a) L H = some 1) ∧ (¬ (l ≤ a ∧ a ≤ h) → F10_within (i3 a) L H = some 0) := by
  subst eL; subst eH
  rw [within10 h1 h2 h3 h4 h5 h6]
  exact ⟨fun q => by rw [if_pos q], fun q => by rw [if_neg q]⟩
theorem call_field {z K : Nat} (hz : 1000 ≤ z) {W : Nat → Int} {t : Int} {fo : Nat → Nat} {fields ties : Int32} {worth forces many : Nat → Int32} {codes : Nat → Nat → Int32} (hX : SX K W t fo fields ties worth forces many codes) {told manym eights gains : Nat → Int32} (hM : SM K W t fo told manym eights gains) (x1 thrown : Int32) (bm : Nat → Int32) (pdr : Nat → Nat → Int32) (pm' pa pt : Nat → Int32) (ntSeen : Nat → Nat → Int32) (ntMany : Nat → Int32) (stale : Int32) (notes seen turns drawn : Nat → Int32) (il : Int32) :
    (F9_field z x1 fields worth forces many codes bm pdr pm' pa pt ntSeen ntMany stale = some (-1, fields, worth, many, codes, bm, pdr, pm', pa, pt, ntSeen, ntMany, stale) ∧ F10_field z x1 thrown told manym eights gains notes seen turns drawn il = some (-1, 0, told, manym, eights, gains, notes, seen, turns, drawn, il)) ∨
    (∃ (v : Int32) (K' : Nat) (W' : Nat → Int) (worth' many' : Nat → Int32) (codes' : Nat → Nat → Int32) (bm2 : Nat → Int32) (pdr2 : Nat → Nat → Int32) (pm2 pa2 pt2 : Nat → Int32) (sn2 : Nat → Nat → Int32) (nm2 told' manym' eights' gains' notes' seen' turns' drawn' : Nat → Int32), F9_field z x1 fields worth forces many codes bm pdr pm' pa pt ntSeen ntMany stale = some (v, v, worth', many', codes', bm2, pdr2, pm2, pa2, pt2, sn2, nm2, 1) ∧ F10_field z x1 thrown told manym eights gains notes seen turns drawn il = some (v, 0, told', manym', eights', gains', notes', seen', turns', drawn', 0) ∧ SX K' W' t fo v ties worth' forces many' codes' ∧ SM K' W' t fo told' manym' eights' gains' ∧ Fresh K' fo bm2 pm2 pa2 pt2 pdr2 sn2 nm2 told' notes' seen' turns' drawn') := by
  obtain ⟨a, rfl, h1, h2⟩ := i3_ex x1
  obtain ⟨hV, hfo, rfl, rfl, hw, hf, hmn, hcd⟩ := hX
  have hK1 := hV.1
  have hK := hV.2.1
  have hW8 := hV.2.2.2.1
  have hW0 : 0 ≤ sm K W := sm_nonneg (fun k hk => by have := hV.2.2.1 k hk; omega)
  have hwi := within10' h1 h2 (l := 1) (h := 8) (by omega) (by omega) (by omega) (by omega) (L := 1) (H := 8) rfl rfl
  unfold F9_field F10_field
  by_cases q1 : 1 ≤ a ∧ a ≤ 8
  · rw [hwi.1 q1, if_neg (by rw [i3_l1, i3_lt h1 h2 (by omega) (by omega)]; omega), if_neg (by rw [i3_l8, i3_lt (by omega) (by omega) h1 h2]; omega)]
    simp only [Option.bind_some]
    rw [if_neg n10, hM.2.2.1]
    by_cases q2 : K = 4
    · left
      rw [if_pos (by rw [i3_l4, i3_le (by omega) (by omega) (by omega) (by omega)]; omega), if_pos (by rw [q2]; rfl)]
      exact ⟨rfl, rfl⟩
    · rw [if_neg (by rw [i3_l4, i3_le (by omega) (by omega) (by omega) (by omega)]; omega), if_neg (by rw [i3_l4, i3_eq (by omega) (by omega) (by omega) (by omega)]; omega), F4_allWorth_ok (by omega) hK hw, F10_worths_ok (by omega) hK hM.2.2.1 hM.2.2.2.1]
      simp only [Option.bind_some]
      rw [i3_add]
      by_cases q3 : sm K W + a ≤ 8
      · right
        rw [if_pos (by rw [i3_l8, i3_le (by omega) (by omega) (by omega) (by omega)]; exact q3), if_pos (by rw [i3_l8, i3_le (by omega) (by omega) (by omega) (by omega)]; exact q3)]
        have e1 : i3 (K : Int) + 1 = i3 ((K + 1 : Nat) : Int) := by rw [i3_l1, i3_add]; rfl
        have e2 : (1 : Int32) + i3 (K : Int) = i3 ((1 + K : Nat) : Int) := by rw [i3_l1, i3_add]; congr 1
        have hV' : Vd (K + 1) (fun k => if k = K then a else W k) t := by
          refine ⟨by omega, by omega, fun k hk => ?_, ?_, hV.2.2.2.2.1, hV.2.2.2.2.2⟩
          · show 1 ≤ if k = K then a else W k
            by_cases q : k = K
            · rw [if_pos q]; omega
            · rw [if_neg q]; exact hV.2.2.1 k (by omega)
          · show sm K (fun k => if k = K then a else W k) + (if K = K then a else W K) ≤ 8
            rw [if_pos rfl, sm_congr (g := W) (fun k hk => if_neg (by omega))]
            exact q3
        simp (disch := omega) only [xg_in, i3_xnN]
        rw [e1, e2]
        simp (disch := omega) only [xg_in, i3_xnN]
        obtain ⟨many', codes', bm2, pdr2, pm2, pa2, pt2, sn2, nm2, e9, hX', h9⟩ := anew9 hz hV' hfo (worth := upd worth K (i3 a)) (forces := forces) (fun k hk => by
          unfold upd
          by_cases q : k = K
          · rw [if_pos q, if_pos q]
          · rw [if_neg q, if_neg q]; exact hw k (by omega)) hf many codes bm pdr pm' pa pt ntSeen ntMany stale
        have et0 : upd (upd told (1 + K) (i3 a)) 0 (upd told (1 + K) (i3 a) 0 + 1) 0 = i3 ((K + 1 : Nat) : Int) := by
          rw [upd_same, upd_diff _ _ (by omega), hM.2.2.1, e1]
        obtain ⟨told', manym', eights', gains', notes', seen', turns', drawn', e10, hM', m1, m2, m3, m4⟩ := F10_begins_ok (told := upd (upd told (1 + K) (i3 a)) 0 (upd told (1 + K) (i3 a) 0 + 1)) (many := manym) (eights := eights) (gains := gains) (notes := notes) (seen := seen) (turns := turns) (drawn := drawn) (il := il) hz hV' hfo et0 (fun k hk => by
          unfold upd
          rw [if_neg (by omega)]
          by_cases q : k = K
          · rw [if_pos (by omega), if_pos q]
          · rw [if_neg (by omega), if_neg q]; exact hM.2.2.2.1 k (by omega)) (fun s hs => by
          unfold upd
          rw [if_neg (by omega), if_neg (by omega)]
          exact hM.2.2.2.2.1 s hs) (by
          unfold upd
          rw [if_neg (by omega), if_neg (by omega)]
          exact hM.2.2.2.2.2.1)
        rw [e9, e10]
        simp only [Option.bind_some]
        rw [m4, et0]
        exact ⟨_, K + 1, _, upd worth K (i3 a), many', codes', bm2, pdr2, pm2, pa2, pt2, sn2, nm2, told', manym', eights', gains', notes', seen', turns', drawn', rfl, rfl, hX', hM', fresh_of h9 m1 m2 m3⟩
      · left
        rw [if_neg (by rw [i3_l8, i3_le (by omega) (by omega) (by omega) (by omega)]; exact q3), if_neg (by rw [i3_l8, i3_le (by omega) (by omega) (by omega) (by omega)]; exact q3)]
        exact ⟨rfl, rfl⟩
  · left
    rw [hwi.2 q1]
    simp only [Option.bind_some, if_true, and_true]
    by_cases q2 : a < 1
    · rw [if_pos (by rw [i3_l1, i3_lt h1 h2 (by omega) (by omega)]; exact q2)]
    · rw [if_neg (by rw [i3_l1, i3_lt h1 h2 (by omega) (by omega)]; exact q2), if_pos (by rw [i3_l8, i3_lt (by omega) (by omega) h1 h2]; omega)]
theorem call_lose {z K : Nat} (hz : 1000 ≤ z) {W : Nat → Int} {t : Int} {fo : Nat → Nat} {fields ties : Int32} {worth forces many : Nat → Int32} {codes : Nat → Nat → Int32} (hX : SX K W t fo fields ties worth forces many codes) {told manym eights gains : Nat → Int32} (hM : SM K W t fo told manym eights gains) (thrown : Int32) (bm : Nat → Int32) (pdr : Nat → Nat → Int32) (pm' pa pt : Nat → Int32) (ntSeen : Nat → Nat → Int32) (ntMany : Nat → Int32) (stale : Int32) (notes seen turns drawn : Nat → Int32) (il : Int32) :
    (F9_lose z fields forces many codes bm pdr pm' pa pt ntSeen ntMany stale = some (-1, fields, many, codes, bm, pdr, pm', pa, pt, ntSeen, ntMany, stale) ∧ F10_lose z thrown told manym eights gains notes seen turns drawn il = some (-1, 0, told, manym, eights, gains, notes, seen, turns, drawn, il)) ∨
    (∃ (v : Int32) (K' : Nat) (many' : Nat → Int32) (codes' : Nat → Nat → Int32) (bm2 : Nat → Int32) (pdr2 : Nat → Nat → Int32) (pm2 pa2 pt2 : Nat → Int32) (sn2 : Nat → Nat → Int32) (nm2 told' manym' eights' gains' notes' seen' turns' drawn' : Nat → Int32), F9_lose z fields forces many codes bm pdr pm' pa pt ntSeen ntMany stale = some (v, v, many', codes', bm2, pdr2, pm2, pa2, pt2, sn2, nm2, 1) ∧ F10_lose z thrown told manym eights gains notes seen turns drawn il = some (v, 0, told', manym', eights', gains', notes', seen', turns', drawn', 0) ∧ SX K' W t fo v ties worth forces many' codes' ∧ SM K' W t fo told' manym' eights' gains' ∧ Fresh K' fo bm2 pm2 pa2 pt2 pdr2 sn2 nm2 told' notes' seen' turns' drawn') := by
  obtain ⟨hV, hfo, rfl, rfl, hw, hf, hmn, hcd⟩ := hX
  have hK1 := hV.1
  have hK := hV.2.1
  unfold F9_lose F10_lose
  rw [hM.2.2.1]
  by_cases q2 : K = 1
  · left
    rw [if_neg (by rw [i3_l1, i3_lt (by omega) (by omega) (by omega) (by omega)]; omega), if_pos (by rw [q2]; rfl)]
    exact ⟨rfl, rfl⟩
  · right
    rw [if_pos (by rw [i3_l1, i3_lt (by omega) (by omega) (by omega) (by omega)]; omega), if_neg (by rw [i3_l1, i3_eq (by omega) (by omega) (by omega) (by omega)]; omega)]
    have e1 : i3 (K : Int) - 1 = i3 ((K - 1 : Nat) : Int) := by rw [i3_l1, i3_sub]; congr 1; omega
    have hV' : Vd (K - 1) W t := by
      refine ⟨by omega, by omega, fun k hk => hV.2.2.1 k (by omega), ?_, hV.2.2.2.2.1, hV.2.2.2.2.2⟩
      have h8 := hV.2.2.2.1
      obtain ⟨K', rfl⟩ : ∃ K', K = K' + 1 := ⟨K - 1, by omega⟩
      have h9 : sm K' W + W K' ≤ 8 := h8
      have := hV.2.2.1 K' (by omega)
      show sm K' W ≤ 8
      omega
    rw [e1]
    obtain ⟨many', codes', bm2, pdr2, pm2, pa2, pt2, sn2, nm2, e9, hX', h9⟩ := anew9 hz hV' hfo (worth := worth) (forces := forces) (fun k hk => hw k (by omega)) hf many codes bm pdr pm' pa pt ntSeen ntMany stale
    have et0 : upd told 0 (i3 ((K - 1 : Nat) : Int)) 0 = i3 ((K - 1 : Nat) : Int) := upd_same _ _ _
    obtain ⟨told', manym', eights', gains', notes', seen', turns', drawn', e10, hM', m1, m2, m3, m4⟩ := F10_begins_ok (told := upd told 0 (i3 ((K - 1 : Nat) : Int))) (many := manym) (eights := eights) (gains := gains) (notes := notes) (seen := seen) (turns := turns) (drawn := drawn) (il := il) hz hV' hfo et0 (fun k hk => by
      rw [upd_diff _ _ (by omega)]
      exact hM.2.2.2.1 k (by omega)) (fun s hs => by
      rw [upd_diff _ _ (by omega)]
      exact hM.2.2.2.2.1 s hs) (by
      rw [upd_diff _ _ (by omega)]
      exact hM.2.2.2.2.2.1)
    rw [e9, e10]
    simp only [Option.bind_some]
    rw [m4, et0]
    exact ⟨_, K - 1, many', codes', bm2, pdr2, pm2, pa2, pt2, sn2, nm2, told', manym', eights', gains', notes', seen', turns', drawn', rfl, rfl, hX', hM', fresh_of h9 m1 m2 m3⟩
theorem call_forces {z K : Nat} (hz : 1000 ≤ z) {W : Nat → Int} {t : Int} {fo : Nat → Nat} {fields ties : Int32} {worth forces many : Nat → Int32} {codes : Nat → Nat → Int32} (hX : SX K W t fo fields ties worth forces many codes) {told manym eights gains : Nat → Int32} (hM : SM K W t fo told manym eights gains) (x1 x2 thrown : Int32) (bm : Nat → Int32) (pdr : Nat → Nat → Int32) (pm' pa pt : Nat → Int32) (ntSeen : Nat → Nat → Int32) (ntMany : Nat → Int32) (stale : Int32) (notes seen turns drawn : Nat → Int32) (il : Int32) :
    (F9_forces z x1 x2 fields forces many codes bm pdr pm' pa pt ntSeen ntMany stale = some (-1, forces, many, codes, bm, pdr, pm', pa, pt, ntSeen, ntMany, stale) ∧ F10_forces z x1 x2 thrown told manym eights gains notes seen turns drawn il = some (-1, 0, told, manym, eights, gains, notes, seen, turns, drawn, il)) ∨
    (∃ (v : Int32) (fo' : Nat → Nat) (forces' many' : Nat → Int32) (codes' : Nat → Nat → Int32) (bm2 : Nat → Int32) (pdr2 : Nat → Nat → Int32) (pm2 pa2 pt2 : Nat → Int32) (sn2 : Nat → Nat → Int32) (nm2 told' manym' eights' gains' notes' seen' turns' drawn' : Nat → Int32), F9_forces z x1 x2 fields forces many codes bm pdr pm' pa pt ntSeen ntMany stale = some (v, forces', many', codes', bm2, pdr2, pm2, pa2, pt2, sn2, nm2, 1) ∧ F10_forces z x1 x2 thrown told manym eights gains notes seen turns drawn il = some (v, 0, told', manym', eights', gains', notes', seen', turns', drawn', 0) ∧ SX K W t fo' fields ties worth forces' many' codes' ∧ SM K W t fo' told' manym' eights' gains' ∧ Fresh K fo' bm2 pm2 pa2 pt2 pdr2 sn2 nm2 told' notes' seen' turns' drawn') := by
  obtain ⟨a, rfl, h1, h2⟩ := i3_ex x1
  obtain ⟨b, rfl, h3, h4⟩ := i3_ex x2
  obtain ⟨hV, hfo, rfl, rfl, hw, hf, hmn, hcd⟩ := hX
  have hK1 := hV.1
  have hK := hV.2.1
  have hwi := within10' h3 h4 (l := 0) (h := 7) (by omega) (by omega) (by omega) (by omega) (L := 0) (H := 7) rfl rfl
  unfold F9_forces F10_forces
  rw [isSide9 a h1 h2, isSide10 a h1 h2]
  simp only [Option.bind_some]
  by_cases e : a = 0 ∨ a = 1
  · obtain ⟨s, hs, ea⟩ : ∃ s : Nat, s < 2 ∧ a = s := ⟨a.toNat, by omega, by omega⟩
    subst ea
    rw [if_pos e, if_neg n10, if_neg n10]
    by_cases q1 : 0 ≤ b ∧ b ≤ 7
    · right
      rw [hwi.1 q1, if_neg (by rw [i3_l0, i3_lt h3 h4 (by omega) (by omega)]; omega), if_pos (by rw [i3_l7, i3_le h3 h4 (by omega) (by omega)]; omega)]
      simp only [Option.bind_some]
      have e5 : (5 : Int32) + i3 (s : Int) = i3 ((5 + s : Nat) : Int) := by rw [i3_l5, i3_add]; congr 1
      rw [if_neg n10, e5]
      simp (disch := omega) only [xg_in, i3_xnN]
      have hfo' : ∀ s', s' < 2 → (fun s' => if s' = s then b.toNat else fo s') s' ≤ 7 := fun s' hs' => by
        show (if s' = s then b.toNat else fo s') ≤ 7
        split
        · omega
        · exact hfo s' hs'
      have eb : i3 b = i3 ((b.toNat : Nat) : Int) := by congr 1; omega
      obtain ⟨many', codes', bm2, pdr2, pm2, pa2, pt2, sn2, nm2, e9, hX', h9⟩ := anew9 hz hV hfo' (worth := worth) (forces := upd forces s (i3 b)) hw (fun s' hs' => by
        unfold upd
        by_cases q : s' = s
        · rw [if_pos q, if_pos q, eb]
        · rw [if_neg q, if_neg q]; exact hf s' hs') many codes bm pdr pm' pa pt ntSeen ntMany stale
      obtain ⟨told', manym', eights', gains', notes', seen', turns', drawn', e10, hM', m1, m2, m3, m4⟩ := F10_begins_ok (told := upd told (5 + s) (i3 b)) (many := manym) (eights := eights) (gains := gains) (notes := notes) (seen := seen) (turns := turns) (drawn := drawn) (il := il) hz hV hfo' (by
        rw [upd_diff _ _ (by omega)]; exact hM.2.2.1) (fun k hk => by
        rw [upd_diff _ _ (by omega)]
        exact hM.2.2.2.1 k (by omega)) (fun s' hs' => by
        unfold upd
        by_cases q : s' = s
        · rw [if_pos (by omega), if_pos q, eb]
        · rw [if_neg (by omega), if_neg q]; exact hM.2.2.2.2.1 s' hs') (by
        rw [upd_diff _ _ (by omega)]
        exact hM.2.2.2.2.2.1)
      rw [e9, e10]
      simp only [Option.bind_some]
      rw [hf s hs, hM.2.2.2.2.1 s hs]
      exact ⟨_, _, upd forces s (i3 b), many', codes', bm2, pdr2, pm2, pa2, pt2, sn2, nm2, told', manym', eights', gains', notes', seen', turns', drawn', rfl, rfl, hX', hM', fresh_of h9 m1 m2 m3⟩
    · left
      rw [hwi.2 q1]
      simp only [Option.bind_some, if_true, and_true]
      by_cases q2 : b < 0
      · rw [if_pos (by rw [i3_l0, i3_lt h3 h4 (by omega) (by omega)]; exact q2)]
      · rw [if_neg (by rw [i3_l0, i3_lt h3 h4 (by omega) (by omega)]; exact q2), if_neg (by rw [i3_l7, i3_le h3 h4 (by omega) (by omega)]; omega)]
  · left
    rw [if_neg e]
    exact ⟨rfl, rfl⟩
theorem call_ties {z K : Nat} (hz : 1000 ≤ z) {W : Nat → Int} {t : Int} {fo : Nat → Nat} {fields ties : Int32} {worth forces many : Nat → Int32} {codes : Nat → Nat → Int32} (hX : SX K W t fo fields ties worth forces many codes) {told manym eights gains : Nat → Int32} (hM : SM K W t fo told manym eights gains) (x1 thrown stale il : Int32) :
    (F9_ties x1 ties stale = some (-1, ties, stale) ∧ F10_ties z x1 thrown told manym eights gains il = some (-1, 0, told, manym, eights, gains, il)) ∨
    (∃ (v : Int32) (t' : Int) (manym' eights' gains' : Nat → Int32), F9_ties x1 ties stale = some (v, x1, 1) ∧ F10_ties z x1 thrown told manym eights gains il = some (v, 0, upd told 7 x1, manym', eights', gains', 0) ∧ SX K W t' fo fields x1 worth forces many codes ∧ SM K W t' fo (upd told 7 x1) manym' eights' gains') := by
  obtain ⟨a, rfl, h1, h2⟩ := i3_ex x1
  obtain ⟨hV, hfo, rfl, rfl, hw, hf, hmn, hcd⟩ := hX
  have hwi := within10' h1 h2 (l := 0) (h := 2) (by omega) (by omega) (by omega) (by omega) (L := 0) (H := 2) rfl rfl
  unfold F9_ties F10_ties
  by_cases q1 : 0 ≤ a ∧ a ≤ 2
  · right
    rw [hwi.1 q1, if_neg (by rw [i3_l0, i3_lt h1 h2 (by omega) (by omega)]; omega), if_pos (by rw [i3_l2, i3_le h1 h2 (by omega) (by omega)]; omega)]
    simp only [Option.bind_some]
    rw [if_neg n10]
    have hV' : Vd K W a := ⟨hV.1, hV.2.1, hV.2.2.1, hV.2.2.2.1, by omega, by omega⟩
    have hK := hV.2.1
    obtain ⟨manym', eights', gains', e10, hM'⟩ := F10_lays_ok (told := upd told 7 (i3 a)) (many := manym) (eights := eights) (gains := gains) (il := il) hz hV' hfo (by
      rw [upd_diff _ _ (by omega)]; exact hM.2.2.1) (fun k hk => by
      rw [upd_diff _ _ (by omega)]; exact hM.2.2.2.1 k hk) (fun s hs => by
      rw [upd_diff _ _ (by omega)]; exact hM.2.2.2.2.1 s hs) (upd_same _ _ _)
    rw [e10]
    simp only [Option.bind_some]
    rw [hM.2.2.2.2.2.1]
    exact ⟨_, a, manym', eights', gains', rfl, rfl, ⟨hV', hfo, rfl, rfl, hw, hf, hmn, hcd⟩, hM'⟩
  · left
    rw [hwi.2 q1]
    simp only [Option.bind_some, if_true, and_true]
    by_cases q2 : a < 0
    · rw [if_pos (by rw [i3_l0, i3_lt h1 h2 (by omega) (by omega)]; exact q2)]
    · rw [if_neg (by rw [i3_l0, i3_lt h1 h2 (by omega) (by omega)]; exact q2), if_neg (by rw [i3_l2, i3_le h1 h2 (by omega) (by omega)]; omega)]
