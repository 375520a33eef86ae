theorem with_pk {bN : Nat → Nat} {bI : Nat → Nat → Nat} {q i : Nat} (s : Nat) : mmm bN (vp bN q (-1) i) s = (if s = q then bN s + 1 else bN s) ∧ ∀ c, c < (if s = q then bN s + 1 else bN s) → mpk bN (vp bN q (-1) i) (vm bN bI i) s c = if c < bN s then bI s c else i := by
  have ht : ∀ j, j < bN s → vp bN q (-1) i s j = true := fun j hj => by
    unfold vp; rw [decide_eq_true_eq]; exact Or.inl ⟨hj, by omega⟩
  have e : cf (vp bN q (-1) i s) (bN s) = bN s := cf_all ht
  by_cases hs : s = q
  · subst hs
    have hl : vp bN s (-1) i s (bN s) = true := by
      unfold vp; rw [decide_eq_true_eq]; exact Or.inr ⟨rfl, rfl, by omega⟩
    simp only [if_true]
    constructor
    · show cf (vp bN s (-1) i s) (bN s) + (if vp bN s (-1) i s (bN s) then 1 else 0) = bN s + 1
      rw [e, if_pos hl]
    · intro c hc
      have hall : ∀ j, j < bN s + 1 → vp bN s (-1) i s j = true := fun j hj => by
        by_cases q2 : j = bN s
        · rw [q2]; exact hl
        · exact ht j (by omega)
      have ec : cf (vp bN s (-1) i s) c = c := cf_all (fun j hj => hall j (by omega))
      unfold mpk
      have := gt_at (p := vp bN s (-1) i s) hc (hall c hc)
      rw [ec] at this
      rw [this]
      unfold vm
      split
      · rfl
      · omega
  · have hl : vp bN q (-1) i s (bN s) = false := by
      unfold vp; rw [decide_eq_false_iff_not]; omega
    simp only [if_neg hs]
    constructor
    · show cf (vp bN q (-1) i s) (bN s) + (if vp bN q (-1) i s (bN s) then 1 else 0) = bN s
      rw [e, hl]; rfl
    · intro c hc
      have ec : cf (vp bN q (-1) i s) c = c := cf_all (fun j hj => ht j (by omega))
      unfold mpk
      have := gt_at (p := vp bN q (-1) i s) (show c < bN s + 1 by omega) (ht c hc)
      rw [ec] at this
      rw [this]
      unfold vm
      rw [if_pos hc, if_pos hc]
theorem without_pk {bN : Nat → Nat} {bI : Nat → Nat → Nat} {q k : Nat} (hk : k < bN q) (s : Nat) : mmm bN (vp bN q k (-1)) s = (if s = q then bN s - 1 else bN s) ∧ ∀ c, c < (if s = q then bN s - 1 else bN s) → mpk bN (vp bN q k (-1)) (vm bN bI (-1)) s c = if s = q then bI s (sk k c) else bI s c := by
  by_cases hs : s = q
  · subst hs
    simp only [if_true]
    have hp : ∀ j, j < bN s → j ≠ k → vp bN s k (-1) s j = true := fun j hj hne => by
      unfold vp; rw [decide_eq_true_eq]; exact Or.inl ⟨hj, by omega⟩
    have hpk : vp bN s k (-1) s k = false := by
      unfold vp; rw [decide_eq_false_iff_not]; omega
    have hl : vp bN s k (-1) s (bN s) = false := by
      unfold vp; rw [decide_eq_false_iff_not]; omega
    have hcf : ∀ j, j ≤ bN s → cf (vp bN s k (-1) s) j = if j ≤ k then j else j - 1 := by
      intro j
      induction j with
      | zero => intro _; rw [if_pos (by omega)]; rfl
      | succ j ih =>
        intro hj
        show cf (vp bN s k (-1) s) j + (if vp bN s k (-1) s j then 1 else 0) = _
        rw [ih (by omega)]
        by_cases e : j = k
        · subst e; rw [hpk, if_pos (show j ≤ j by omega), if_neg (show ¬ j + 1 ≤ j by omega)]; simp
        · rw [if_pos (hp j (by omega) e)]
          by_cases q2 : j ≤ k
          · rw [if_pos q2, if_pos (by omega)]
          · rw [if_neg q2, if_neg (by omega)]; omega
    constructor
    · show cf (vp bN s k (-1) s) (bN s) + (if vp bN s k (-1) s (bN s) then 1 else 0) = bN s - 1
      rw [hcf _ (Nat.le_refl _), hl, if_neg (by omega)]; simp
    · intro c hc
      have h1 : sk k c < bN s := by unfold sk; split <;> omega
      have h2 : sk k c ≠ k := sk_ne k c
      have h3 : cf (vp bN s k (-1) s) (sk k c) = c := by
        rw [hcf _ (by omega)]
        unfold sk
        by_cases q2 : c < k
        · rw [if_pos q2, if_pos (by omega)]
        · rw [if_neg q2, if_neg (by omega)]; omega
      unfold mpk
      have := gt_at (p := vp bN s k (-1) s) (show sk k c < bN s + 1 by omega) (hp _ h1 h2)
      rw [h3] at this
      rw [this]
      unfold vm
      rw [if_pos h1]
  · simp only [if_neg hs]
    have ht : ∀ j, j < bN s → vp bN q k (-1) s j = true := fun j hj => by
      unfold vp; rw [decide_eq_true_eq]; exact Or.inl ⟨hj, by omega⟩
    have hl : vp bN q k (-1) s (bN s) = false := by
      unfold vp; rw [decide_eq_false_iff_not]; omega
    have e : cf (vp bN q k (-1) s) (bN s) = bN s := cf_all ht
    constructor
    · show cf (vp bN q k (-1) s) (bN s) + (if vp bN q k (-1) s (bN s) then 1 else 0) = bN s
      rw [e, hl]; rfl
    · intro c hc
      have ec : cf (vp bN q k (-1) s) c = c := cf_all (fun j hj => ht j (by omega))
      unfold mpk
      have := gt_at (p := vp bN q k (-1) s) (show c < bN s + 1 by omega) (ht c hc)
      rw [ec] at this
      rw [this]
      unfold vm
      rw [if_pos hc]
/-- a game of both by members that both know alike -/
theorem members_game {z K : Nat} (hz : 1000 ≤ z) {W : Nat → Int} {t : Int} {fo : Nat → Nat} {told many eights gains : Nat → Int32} (hM : SM K W t fo told many eights gains) {bN : Nat → Nat} {bI : Nat → Nat → Nat} {bList : Nat → Nat → Int32} {bMany : Nat → Int32} (hB : BKr K fo bN bI bList bMany told) {q wo wi : Int} (hq : -1 ≤ q ∧ q ≤ 1) (hwo : -1 ≤ wo ∧ wo ≤ 6) (hwi : -1 ≤ wi ∧ wi ≤ 1000) (hwv : 0 ≤ wi → ∃ s : Nat, q = s ∧ s < 2 ∧ wi.toNat < ns K (fo s)) {mm : Nat → Nat} {pk : Nat → Nat → Nat} (hmm : ∀ s, s < 2 → mmm bN (vp bN q wo wi) s = mm s ∧ 0 < mm s ∧ mm s ≤ 6) (hpk : ∀ s c, s < 2 → c < mm s → mpk bN (vp bN q wo wi) (vm bN bI wi) s c = pk s c) (game : Nat → Int32) (rows cols : Int32) : ∃ game', F10_laysGame z 0 (i3 q) (i3 wo) (i3 wi) told many eights gains game rows cols = some (game', i3 (mm 0 : Nat), i3 (mm 1 : Nat)) ∧ GM (mm 1) (mm 0) (gg K W t fo pk 0) game' := by
  obtain ⟨game', e, hG⟩ := laysGame_ok (z := z) (by omega) hM hB (p := vp bN q wo wi) (m := vm bN bI wi) (x2 := i3 q) (x3 := i3 wo) (x4 := i3 wi) (fun s' i hs' hi => memberOf_ok (by omega) hM hB hq hwo hwi hs' hi) (fun s' i hs' hi hp => by
    unfold vp at hp
    rw [decide_eq_true_eq] at hp
    unfold vm
    by_cases hlt : i < bN s'
    · rw [if_pos hlt]
      exact ((hB s' hs').2.2.2.1 i hlt).1
    · rw [if_neg hlt]
      obtain ⟨s2, e1, e2, e3⟩ := hwv (by omega)
      have : s' = s2 := by omega
      rw [this]; exact e3) (fun s' hs' => by rw [(hmm s' hs').1]; exact (hmm s' hs').2) (s := 0) (by omega) game rows cols
  rw [(hmm 0 (by omega)).1, (hmm (1 - 0) (by omega)).1] at e hG
  refine ⟨game', e, hG.1, hG.2.1, hG.2.2.1, hG.2.2.2.1, fun r c _ _ => gsd_bd hM.1 0 _ _, fun i j hi hj => ?_⟩
  rw [hG.2.2.2.2.2 i j hi hj]
  unfold gg
  rw [hpk 0 i (by omega) hi, hpk (1 - 0) j (by omega) hj]
theorem F1_join_ok {s n i : Nat} (hs : s < 2) (hn : n < 6) {picks : Nat → Nat → Int32} {gmany : Nat → Int32} (hg : gmany s = i3 n) : F1_join (i3 s) (i3 i) picks gmany = some (va_up picks s (upd (picks s) n (i3 i)), upd gmany s (i3 ((n + 1 : Nat) : Int))) := by
  unfold F1_join
  simp (disch := omega) only [xg_in, i3_xnN]
  rw [hg, if_neg (by rw [i3_l6, i3_le (by omega) (by omega) (by omega) (by omega)]; omega)]
  simp (disch := omega) only [xg_in, i3_xnN]
  rw [i3_l1, i3_add]
  rfl
theorem call_valueWith {z K : Nat} (hz : 1000 ≤ z) {W : Nat → Int} {t : Int} {fo : Nat → Nat} {fields ties : Int32} {worth forces many : Nat → Int32} {codes : Nat → Nat → Int32} (hX : SX K W t fo fields ties worth forces many codes) {told manym eights gains : Nat → Int32} (hM : SM K W t fo told manym eights gains) {bN : Nat → Nat} {bI : Nat → Nat → Nat} {bList : Nat → Nat → Int32} {bMany : Nat → Int32} (hB : BKr K fo bN bI bList bMany told) (x1 x2 x3 thrown : Int32) (picks : Nat → Nat → Int32) (gmany : Nat → Int32) (table : Nat → Nat → Int64) (rowN colN : Nat → Int32) (grows gcols : Int32) (scale : Int64) (game : Nat → Int32) (rows cols isF : Int32) (bV bB : Int64) (bS sh mat sys : Nat → Int64) : ∃ v o p, F9_valueWith z x1 x2 x3 fields ties worth many codes bList bMany picks gmany table rowN colN grows gcols scale = some (v, o) ∧ F10_valueWith z x1 x2 x3 thrown told manym eights gains game rows cols isF bV bB bS sh mat sys = some (v, 0, p) := by
  obtain ⟨a, rfl, h1, h2⟩ := i3_ex x1
  obtain ⟨b, rfl, h3, h4⟩ := i3_ex x2
  obtain ⟨c, rfl, h5, h6⟩ := i3_ex x3
  have hwi := within10' h5 h6 (l := 0) (h := 1) (by omega) (by omega) (by omega) (by omega) (L := 0) (H := 1) rfl rfl
  unfold F9_valueWith F10_valueWith
  rw [isPart9 c h5 h6]
  simp only [Option.bind_some]
  by_cases e1 : isp K fo a b
  · obtain ⟨s, i, rfl, rfl, hs, hi⟩ := e1
    have n0 := ns_bd hX.1 (hX.2.1 s hs)
    rw [isSplit10_yes hM hs hi]
    simp only [Option.bind_some]
    rw [if_neg n10]
    by_cases ec : c = 0 ∨ c = 1
    · rw [if_pos ec, if_neg n10, hwi.1 (by omega)]
      simp only [Option.bind_some]
      rw [if_neg n10]
      by_cases q : 0 < bN 0 ∧ 0 < bN 1
      · rw [((haveBooks_ok hB).1 q).1, ((haveBooks_ok hB).1 q).2]
        simp only [Option.bind_some]
        rw [if_neg n10, if_neg n10, F10_booked_ok hB hs]
        simp only [Option.bind_some]
        obtain ⟨b1, b2, b3, b4, b5⟩ := hB s hs
        have hcj := canJoin_ok (z := z) (by omega) hX hB hs hi
        have hbk := F10_isBooked_ok (z := z) (by omega) hM hB hs hi
        by_cases q6 : bN s < 6
        · rw [if_neg (show ¬ i3 (bN s : Int) = 6 by rw [i3_l6, i3_eq (by omega) (by omega) (by omega) (by omega)]; omega)]
          by_cases q2 : ∃ k, k < bN s ∧ bI s k = i
          · rw [hcj.2 (fun q3 => q3.2 q2), hbk.1 q2]
            exact ⟨_, _, _, rfl, rfl⟩
          · rw [hcj.1 ⟨q6, q2⟩, hbk.2 q2]
            simp only [Option.bind_some, if_true]
            rw [if_neg n10]
            obtain ⟨picks', gmany', ep, hp1, hp2⟩ := takeBooks_ok (z := z) (by omega) hB picks gmany
            rw [ep]
            simp only [Option.bind_some]
            rw [F1_join_ok hs q6 (hp1 s hs)]
            simp only [Option.bind_some]
            have hb' : ∀ s, s < 2 → 0 < bN s ∧ bN s ≤ 6 := fun s hs => by
              refine ⟨?_, (hB s hs).1⟩
              rcases two_cases hs with rfl | rfl
              · exact q.1
              · exact q.2
            have hPK : PK K fo (fun s' k => if k < bN s' then bI s' k else i) (fun s' => if s' = s then bN s' + 1 else bN s') (va_up picks' s (upd (picks' s) (bN s) (i3 (i : Int)))) (upd gmany' s (i3 ((bN s + 1 : Nat) : Int))) := by
              refine ⟨fun s' hs' => ?_, fun s' k hs' hk => ?_⟩
              · have hb2 := hb' s' hs'
                by_cases es : s' = s
                · subst es
                  simp only [if_true]
                  exact ⟨by omega, by omega, upd_same _ _ _⟩
                · simp only [if_neg es]
                  exact ⟨hb2.1, by omega, by rw [upd_diff _ _ es]; exact hp1 s' hs'⟩
              · show va_up picks' s (upd (picks' s) (bN s) (i3 (i : Int))) s' k = i3 ((if k < bN s' then bI s' k else i : Nat) : Int) ∧ (if k < bN s' then bI s' k else i) < ns K (fo s')
                by_cases es : s' = s
                · subst es
                  simp only [if_true] at hk
                  rw [va_up_self]
                  unfold upd
                  by_cases ek : k = bN s'
                  · rw [if_pos ek, if_neg (by omega)]; exact ⟨rfl, hi⟩
                  · rw [if_neg ek, if_pos (by omega)]; exact ⟨hp2 s' k hs' (by omega), (b4 k (by omega)).1⟩
                · simp only [if_neg es] at hk
                  rw [va_up_ne _ _ es, if_pos hk]
                  exact ⟨hp2 s' k hs' hk, ((hB s' hs').2.2.2.1 k hk).1⟩
            obtain ⟨game', eg, hG⟩ := members_game hz hM hB (q := s) (wo := -1) (wi := i) (by omega) (by omega) (by omega) (fun _ => ⟨s, rfl, hs, by omega⟩) (mm := fun s' => if s' = s then bN s' + 1 else bN s') (pk := fun s' k => if k < bN s' then bI s' k else i) (fun s' hs' => by
              have hb2 := hb' s' hs'
              refine ⟨(with_pk (bI := bI) s').1, ?_⟩
              show 0 < (if s' = s then bN s' + 1 else bN s') ∧ (if s' = s then bN s' + 1 else bN s') ≤ 6
              by_cases es : s' = s
              · rw [if_pos es, es]; omega
              · rw [if_neg es]; omega) (fun s' c hs' hc => (with_pk (bI := bI) s').2 c hc) game rows cols
            have eg' : F10_laysGame z 0 (i3 s) (-1) (i3 i) told manym eights gains game rows cols = _ := eg
            obtain ⟨table', rowN', colN', scale', isF', bV', bB', bS', sh', mat', sys', X, V, xs, b', f, e9, e10, ev, ex, -, f1, f2, -, hX0, hX1, hb0, hb1, hV, -, hf, hfx, -⟩ := both_solve hz hX hPK (s := 0) (by omega) hG table rowN colN grows gcols scale isF bV bB bS sh mat sys
            have e9' : F1_solve z 0 (va_up picks' s (upd (picks' s) (bN s) (i3 (i : Int)))) (upd gmany' s (i3 ((bN s + 1 : Nat) : Int))) table rowN colN grows gcols scale fields ties worth codes = _ := e9
            rw [eg']
            simp only [Option.bind_some]
            rw [e10]
            unfold F9_takenValue
            rw [e9']
            simp only [Option.bind_some]
            rw [ev, ex]
            simp only [Option.bind_some]
            have hf0 := hf 0 (by omega)
            rw [F9_lowest_ok (by omega) (by omega) (by omega) hX0 (by omega) ec, f1, f2, F10_term_ok (by omega) (by omega) (by omega) hb0 (by omega) ec, lowt_eq hb0 hX0 hfx c]
            exact ⟨_, _, _, rfl, rfl⟩
        · rw [if_pos (show i3 (bN s : Int) = 6 by rw [show bN s = 6 by omega]; rfl), hcj.2 (fun q3 => q6 q3.1)]
          exact ⟨_, _, _, rfl, rfl⟩
      · rw [((haveBooks_ok hB).2 q).1, ((haveBooks_ok hB).2 q).2]
        exact ⟨_, _, _, rfl, rfl⟩
    · rw [if_neg ec, hwi.2 (by omega)]
      exact ⟨_, _, _, rfl, rfl⟩
  · have e0 : F9_canJoin z (i3 a) (i3 b) many bList bMany = some 0 := by
      unfold F9_canJoin
      rw [isSplit4_no hX h1 h2 h3 h4 e1]
      rfl
    rw [e0, isSplit10_no hM h1 h2 h3 h4 e1]
    simp only [Option.bind_some, if_true]
    by_cases ec : c = 0 ∨ c = 1
    · rw [if_pos ec, if_neg n10]
      by_cases q : 0 < bN 0 ∧ 0 < bN 1
      · rw [((haveBooks_ok hB).1 q).1]
        exact ⟨_, _, _, rfl, rfl⟩
      · rw [((haveBooks_ok hB).2 q).1]
        exact ⟨_, _, _, rfl, rfl⟩
    · rw [if_neg ec]
      exact ⟨_, _, _, rfl, rfl⟩
theorem F1_leaveOut_ok {z s n k : Nat} (hz : 20 ≤ z) (hs : s < 2) (hn : n ≤ 6) (hk : k < n) {picks : Nat → Nat → Int32} {gmany : Nat → Int32} (hg : gmany s = i3 n) : ∃ picks', F1_leaveOut z (i3 s) (i3 k) picks gmany = some (picks', upd gmany s (i3 ((n - 1 : Nat) : Int))) ∧ (∀ c, c < n - 1 → picks' s c = picks s (sk k c)) ∧ ∀ s', s' ≠ s → picks' s' = picks s' := by
  have loop : ∀ (rem w a : Nat) (P' : Nat → Nat → Int32), k ≤ a → a + rem = n - 1 → rem < w → (∀ c, c < a → P' s c = picks s (sk k c)) → (∀ c, a ≤ c → P' s c = picks s c) → (∀ s', s' ≠ s → P' s' = picks s') → ∃ picks', F1_leaveOut_b12 z w (i3 s) (i3 a) P' (upd gmany s (i3 ((n - 1 : Nat) : Int))) = some (picks', upd gmany s (i3 ((n - 1 : Nat) : Int))) ∧ (∀ c, c < n - 1 → picks' s c = picks s (sk k c)) ∧ ∀ s', s' ≠ s → picks' s' = picks s' := by
    intro rem
    induction rem with
    | zero =>
      intro w a P' hka ha hw h1 h2 h3
      obtain ⟨w, rfl⟩ : ∃ w', w = w' + 1 := ⟨w - 1, by omega⟩
      refine ⟨P', ?_, fun c hc => h1 c (by omega), h3⟩
      unfold F1_leaveOut_b12
      rw [xg_in _ (by omega) (by omega) (by omega), i3_xnN (by omega), upd_same, if_pos (by rw [i3_le (by omega) (by omega) (by omega) (by omega)]; omega)]
    | succ rem ih =>
      intro w a P' hka ha hw h1 h2 h3
      obtain ⟨w, rfl⟩ : ∃ w', w = w' + 1 := ⟨w - 1, by omega⟩
      have ea : i3 (a : Int) + 1 = i3 ((a + 1 : Nat) : Int) := by rw [i3_l1, i3_add]; rfl
      unfold F1_leaveOut_b12
      rw [xg_in _ (by omega) (by omega) (by omega), i3_xnN (by omega), upd_same, if_neg (by rw [i3_le (by omega) (by omega) (by omega) (by omega)]; omega), ea]
      simp (disch := omega) only [xg_in, i3_xnN]
      refine ih w (a + 1) _ (by omega) (by omega) (by omega) (fun c hc => ?_) (fun c hc => ?_) (fun s' hne => by rw [va_up_ne _ _ hne]; exact h3 s' hne)
      · rw [va_up_self]
        unfold upd
        by_cases q : c = a
        · rw [if_pos q, h2 (a + 1) (by omega), q]
          unfold sk
          rw [if_neg (by omega)]
        · rw [if_neg q]; exact h1 c (by omega)
      · rw [va_up_self]
        unfold upd
        rw [if_neg (by omega)]
        exact h2 c (by omega)
  have en : i3 (n : Int) - 1 = i3 ((n - 1 : Nat) : Int) := by rw [i3_l1, i3_sub]; congr 1; omega
  unfold F1_leaveOut
  simp (disch := omega) only [xg_in, i3_xnN]
  rw [hg, en]
  exact loop (n - 1 - k) z k picks (Nat.le_refl _) (by omega) (by omega) (fun c hc => by unfold sk; rw [if_pos hc]) (fun _ _ => rfl) (fun _ _ => rfl)

theorem call_needless {z K : Nat} (hz : 1000 ≤ z) {W : Nat → Int} {t : Int} {fo : Nat → Nat} {fields ties : Int32} {worth forces many : Nat → Int32} {codes : Nat → Nat → Int32} (hX : SX K W t fo fields ties worth forces many codes) {told manym eights gains : Nat → Int32} (hM : SM K W t fo told manym eights gains) {bN : Nat → Nat} {bI : Nat → Nat → Nat} {bList : Nat → Nat → Int32} {bMany : Nat → Int32} (hB : BKr K fo bN bI bList bMany told) (x1 thrown : Int32) (picks : Nat → Nat → Int32) (gmany : Nat → Int32) (table : Nat → Nat → Int64) (rowN colN : Nat → Int32) (grows gcols : Int32) (scale : Int64) (game : Nat → Int32) (rows cols isF : Int32) (bV bB : Int64) (bS sh mat sys : Nat → Int64) : ∃ v o p, F9_needless z x1 fields ties worth codes bList bMany picks gmany table rowN colN grows gcols scale = some (v, o) ∧ F10_needless z x1 thrown told manym eights gains game rows cols isF bV bB bS sh mat sys = some (v, 0, p) := by
  obtain ⟨a, rfl, h1, h2⟩ := i3_ex x1
  unfold F9_needless F10_needless
  rw [isSide9 a h1 h2, isSide10 a h1 h2]
  simp only [Option.bind_some]
  by_cases e : a = 0 ∨ a = 1
  · obtain ⟨s, hs, ea⟩ : ∃ s : Nat, s < 2 ∧ a = s := ⟨a.toNat, by omega, by omega⟩
    subst ea
    rw [if_pos e, if_neg n10, if_neg n10]
    by_cases q : 0 < bN 0 ∧ 0 < bN 1
    · rw [((haveBooks_ok hB).1 q).1, ((haveBooks_ok hB).1 q).2]
      simp only [Option.bind_some]
      rw [if_neg n10, if_neg n10]
      have hb' : ∀ s, s < 2 → 0 < bN s ∧ bN s ≤ 6 := fun s hs => by
        refine ⟨?_, (hB s hs).1⟩
        rcases two_cases hs with rfl | rfl
        · exact q.1
        · exact q.2
      have hbs := hb' s hs
      obtain ⟨⟨picks1, gmany1, ep, hPK⟩, hg⟩ := plain_game hz hM hB q picks gmany game rows cols
      obtain ⟨game1, eg, hG⟩ := hg 0 (by omega)
      obtain ⟨table1, rowN1, colN1, scale1, isF1, bV1, bB1, bS1, sh1, mat1, sys1, X0, V0, xs0, b0, f0, e9, e10, ev, ex, -, f1, f2, -, hX0, hX1, hb0, hb1, hV0, -, hf, hfx, -⟩ := both_solve hz hX hPK (s := 0) (by omega) hG table rowN colN grows gcols scale isF bV bB bS sh mat sys
      have hf0 := hf 0 (by omega)
      have eg' : F10_laysGame z 0 (-1) (-1) (-1) told manym eights gains game rows cols = _ := eg
      have e9' : F1_solve z 0 picks1 gmany1 table rowN colN grows gcols scale fields ties worth codes = _ := e9
      rw [ep, eg']
      simp only [Option.bind_some]
      rw [e9', e10]
      simp only [Option.bind_some]
      rw [ev, ex]
      simp (disch := omega) only [Option.bind_some, xg_in, i3_xnN]
      rw [(hB s hs).2.1, f1, f2]
      -- the loop of both
      have loop : ∀ (rem w w' k : Nat) (picks : Nat → Nat → Int32) (gmany : Nat → Int32) (table : Nat → Nat → Int64) (rowN colN : Nat → Int32) (grows gcols : Int32) (scale : Int64) (game : Nat → Int32) (rows cols isF : Int32) (bV bB : Int64) (bS sh mat sys : Nat → Int64), k + rem = bN s → rem < w → rem < w' → ∃ v o p, F9_needless_b66 z w (i3 s) (i6 V0) (i6 X0) (i3 (bN s : Nat)) (i3 k) fields ties worth codes bList bMany picks gmany table rowN colN grows gcols scale = some (v, o) ∧ F10_needless_b47 z w' (i3 s) (i6 (f0 0)) (i6 b0) (i3 k) 0 told manym eights gains game rows cols isF bV bB bS sh mat sys = some (v, 0, p) := by
        intro rem
        induction rem with
        | zero =>
          intro w w' k picks gmany table rowN colN grows gcols scale game rows cols isF bV bB bS sh mat sys hk hw hw'
          obtain ⟨w, rfl⟩ : ∃ v, w = v + 1 := ⟨w - 1, by omega⟩
          obtain ⟨w', rfl⟩ : ∃ v, w' = v + 1 := ⟨w' - 1, by omega⟩
          have c1 : i3 (bN s : Int) ≤ i3 (k : Int) := by rw [i3_le (by omega) (by omega) (by omega) (by omega)]; omega
          unfold F9_needless_b66 F10_needless_b47
          rw [F10_booked_ok hB hs]
          simp only [Option.bind_some]
          rw [if_pos c1, if_pos c1]
          exact ⟨_, _, _, rfl, rfl⟩
        | succ rem ih =>
          intro w w' k picks gmany table rowN colN grows gcols scale game rows cols isF bV bB bS sh mat sys hk hw hw'
          obtain ⟨w, rfl⟩ : ∃ v, w = v + 1 := ⟨w - 1, by omega⟩
          obtain ⟨w', rfl⟩ : ∃ v, w' = v + 1 := ⟨w' - 1, by omega⟩
          have c1 : ¬ i3 (bN s : Int) ≤ i3 (k : Int) := by rw [i3_le (by omega) (by omega) (by omega) (by omega)]; omega
          unfold F9_needless_b66 F10_needless_b47
          rw [F10_booked_ok hB hs]
          simp only [Option.bind_some]
          rw [if_neg c1, if_neg c1]
          by_cases q1 : bN s ≤ 1
          · have c2 : i3 (bN s : Int) ≤ 1 := by rw [i3_l1, i3_le (by omega) (by omega) (by omega) (by omega)]; omega
            rw [if_pos c2, if_pos c2]
            exact ⟨_, _, _, rfl, rfl⟩
          · have c2 : ¬ i3 (bN s : Int) ≤ 1 := by rw [i3_l1, i3_le (by omega) (by omega) (by omega) (by omega)]; omega
            rw [if_neg c2, if_neg c2]
            have hkb : k < bN s := by omega
            obtain ⟨picks2, gmany2, ep2, hp1, hp2⟩ := takeBooks_ok (z := z) (by omega) hB picks gmany
            obtain ⟨picks3, ep3, hp3, hp4⟩ := F1_leaveOut_ok (z := z) (by omega) hs hbs.2 hkb (picks := picks2) (hp1 s hs)
            rw [ep2]
            simp only [Option.bind_some]
            rw [ep3]
            simp only [Option.bind_some]
            have hPK3 : PK K fo (fun s' c => if s' = s then bI s' (sk k c) else bI s' c) (fun s' => if s' = s then bN s' - 1 else bN s') picks3 (upd gmany2 s (i3 ((bN s - 1 : Nat) : Int))) := by
              refine ⟨fun s' hs' => ?_, fun s' c hs' hc => ?_⟩
              · have hb2 := hb' s' hs'
                by_cases es : s' = s
                · subst es
                  simp only [if_true]
                  exact ⟨by omega, by omega, upd_same _ _ _⟩
                · simp only [if_neg es]
                  exact ⟨hb2.1, by omega, by rw [upd_diff _ _ es]; exact hp1 s' hs'⟩
              · show picks3 s' c = i3 ((if s' = s then bI s' (sk k c) else bI s' c : Nat) : Int) ∧ (if s' = s then bI s' (sk k c) else bI s' c) < ns K (fo s')
                by_cases es : s' = s
                · subst es
                  simp only [if_true] at hc ⊢
                  have hsk : sk k c < bN s' := by unfold sk; split <;> omega
                  exact ⟨by rw [hp3 c hc]; exact hp2 s' _ hs' hsk, ((hB s' hs').2.2.2.1 _ hsk).1⟩
                · simp only [if_neg es] at hc ⊢
                  exact ⟨by rw [hp4 s' es]; exact hp2 s' c hs' hc, ((hB s' hs').2.2.2.1 c hc).1⟩
            obtain ⟨game3, eg3, hG3⟩ := members_game hz hM hB (q := s) (wo := k) (wi := -1) (by omega) (by omega) (by omega) (fun q => by omega) (mm := fun s' => if s' = s then bN s' - 1 else bN s') (pk := fun s' c => if s' = s then bI s' (sk k c) else bI s' c) (fun s' hs' => by
              have hb2 := hb' s' hs'
              refine ⟨(without_pk (bI := bI) hkb s').1, ?_⟩
              show 0 < (if s' = s then bN s' - 1 else bN s') ∧ (if s' = s then bN s' - 1 else bN s') ≤ 6
              by_cases es : s' = s
              · rw [if_pos es, es]; omega
              · rw [if_neg es]; omega) (fun s' c hs' hc => (without_pk (bI := bI) hkb s').2 c hc) game rows cols
            have eg3' : F10_laysGame z 0 (i3 s) (i3 k) (-1) told manym eights gains game rows cols = _ := eg3
            obtain ⟨table2, rowN2, colN2, scale2, isF2, bV2, bB2, bS2, sh2, mat2, sys2, X, V, xs, b', f, e92, e102, ev2, ex2, -, f12, f22, -, hXX, hX12, hbb, hb12, hV2, -, hf2, hfx2, -⟩ := both_solve hz hX hPK3 (s := 0) (by omega) hG3 table rowN colN grows gcols scale isF bV bB bS sh mat sys
            have e92' : F1_solve z 0 picks3 (upd gmany2 s (i3 ((bN s - 1 : Nat) : Int))) table rowN colN grows gcols scale fields ties worth codes = _ := e92
            have hf20 := hf2 0 (by omega)
            rw [e92', eg3']
            simp only [Option.bind_some]
            rw [e102, ev2, ex2]
            simp only [Option.bind_some]
            rw [f12, f22, i6_mul, i6_mul, i6_mul, i6_mul]
            have p1 := abs_mul (a := 188743680) (b := 141557760) (x := V) (y := X0) (by omega) (by omega) (by omega) (by omega)
            have p2 := abs_mul (a := 188743680) (b := 141557760) (x := V0) (y := X) (by omega) (by omega) (by omega) (by omega)
            have p3 := prod_bd hf20.1 hf20.2 (show -1462763520 ≤ b0 by omega) hb1
            have p4 := prod_bd hf0.1 hf0.2 (show -1462763520 ≤ b' by omega) hb12
            have hiff : V * X0 = V0 * X ↔ f 0 * b0 = f0 0 * b' := by
              have hpp : 0 < X * X0 := Int.mul_pos hXX hX0
              have hbbp : 0 < b' * b0 := Int.mul_pos hbb hb0
              have k1 : (X * X0) * (f 0 * b0 - f0 0 * b') = (b' * b0) * (V * X0 - V0 * X) := by grind
              constructor
              · intro hh
                have : (X * X0) * (f 0 * b0 - f0 0 * b') = 0 := by rw [k1, hh]; simp
                rcases Int.mul_eq_zero.mp this with q | q <;> omega
              · intro hh
                have : (b' * b0) * (V * X0 - V0 * X) = 0 := by rw [← k1, hh]; simp
                rcases Int.mul_eq_zero.mp this with q | q <;> omega
            by_cases heq : V * X0 = V0 * X
            · have heq2 := hiff.mp heq
              rw [heq, heq2, cmp_eq, cmp_eq, if_pos rfl, if_pos rfl]
              exact ⟨_, _, _, rfl, rfl⟩
            · have heq2 : ¬ f 0 * b0 = f0 0 * b' := fun q => heq (hiff.mpr q)
              have d1 : ¬ lg_cmp (i6 (V * X0)) (i6 (V0 * X)) = 0 := by
                by_cases q : V * X0 < V0 * X
                · rw [cmp_lt (by omega) (by omega) (by omega) (by omega) q]; decide
                · rw [cmp_gt (by omega) (by omega) (by omega) (by omega) (by omega)]; decide
              have d2 : ¬ lg_cmp (i6 (f 0 * b0)) (i6 (f0 0 * b')) = 0 := by
                by_cases q : f 0 * b0 < f0 0 * b'
                · rw [cmp_lt (by omega) (by omega) (by omega) (by omega) q]; decide
                · rw [cmp_gt (by omega) (by omega) (by omega) (by omega) (by omega)]; decide
              rw [if_neg d1, if_neg d2, show i3 (k : Int) + 1 = i3 ((k + 1 : Nat) : Int) from by rw [i3_l1, i3_add]; rfl]
              exact ih w w' (k + 1) _ _ _ _ _ _ _ _ _ _ _ _ _ _ _ _ _ _ (by omega) (by omega) (by omega)
      exact loop (bN s) z z 0 _ _ _ _ _ _ _ _ _ _ _ _ _ _ _ _ _ _ (by omega) (by omega) (by omega)
    · rw [((haveBooks_ok hB).2 q).1, ((haveBooks_ok hB).2 q).2]
      exact ⟨_, _, _, rfl, rfl⟩
  · rw [if_neg e]
    exact ⟨_, _, _, rfl, rfl⟩
