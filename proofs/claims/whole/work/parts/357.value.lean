/-! ===== calls: value, best, valueWith, needless ===== -/
theorem cf_all {p : Nat → Bool} {n : Nat} (h : ∀ i, i < n → p i = true) : cf p n = n := by
  induction n with
  | zero => rfl
  | succ n ih =>
    show cf p n + (if p n then 1 else 0) = n + 1
    rw [ih (fun i hi => h i (by omega)), if_pos (h n (by omega))]
/-- members: of side q one left out (wo), one more (wi); -1: none -/
def vp (bN : Nat → Nat) (q wo wi : Int) (s i : Nat) : Bool := decide ((i < bN s ∧ ¬ ((s : Int) = q ∧ (i : Int) = wo)) ∨ (i = bN s ∧ (s : Int) = q ∧ 0 ≤ wi))
def vm (bN : Nat → Nat) (bI : Nat → Nat → Nat) (wi : Int) (s i : Nat) : Nat := if i < bN s then bI s i else wi.toNat
theorem memberOf_ok {z K : Nat} (hz : 200 ≤ z) {W : Nat → Int} {t : Int} {fo bN : Nat → Nat} {bI : Nat → Nat → Nat} {bList : Nat → Nat → Int32} {bMany told many eights gains : Nat → Int32} (hM : SM K W t fo told many eights gains) (hB : BKr K fo bN bI bList bMany told) {q wo wi : Int} (hq : -1 ≤ q ∧ q ≤ 1) (hwo : -1 ≤ wo ∧ wo ≤ 6) (hwi : -1 ≤ wi ∧ wi ≤ 1000) {s i : Nat} (hs : s < 2) (hi : i ≤ bN s) : F10_memberOf z (i3 s) (i3 i) (i3 q) (i3 wo) (i3 wi) told many eights = some (if vp bN q wo wi s i then i3 (vm bN bI wi s i : Nat) else -1) := by
  have hb6 := (hB s hs).1
  unfold F10_memberOf F10_memberOf_b36 vp vm
  rw [F10_booked_ok hB hs]
  simp only [Option.bind_some]
  by_cases h1 : i = bN s
  · subst h1
    rw [if_pos rfl, if_neg (show ¬ bN s < bN s by omega)]
    by_cases h2 : (s : Int) = q
    · rw [if_pos (by rw [h2])]
      by_cases h3 : 0 ≤ wi
      · rw [if_pos (by simp [h2, h3])]
        congr 2; omega
      · rw [if_neg (by simp; intro; omega)]
        rw [show wi = -1 by omega]; rfl
    · rw [if_neg (by rw [i3_eq (by omega) (by omega) (by omega) (by omega)]; exact h2), if_neg (by simp [h2])]
  · have hlt : i < bN s := by omega
    rw [if_neg (by rw [i3_eq (by omega) (by omega) (by omega) (by omega)]; omega), if_pos hlt, F10_bookAt_ok hz hM hB hs hlt]
    simp only [Option.bind_some]
    by_cases h2 : (s : Int) = q
    · rw [if_pos (by rw [h2])]
      by_cases h3 : (i : Int) = wo
      · rw [if_pos (by rw [h3]), if_neg (by simp [h2, h3]; omega)]
      · rw [if_neg (by rw [i3_eq (by omega) (by omega) (by omega) (by omega)]; exact h3), if_pos (by simp [h2, h3, hlt])]
    · rw [if_neg (by rw [i3_eq (by omega) (by omega) (by omega) (by omega)]; exact h2), if_pos (by simp [h2, hlt])]
theorem F1_take_ok {z n s : Nat} (hz : 20 ≤ z) (hs : s < 2) (hn : n ≤ 6) (picks : Nat → Nat → Int32) (many : Nat → Int32) (list : Nat → Int32) : ∃ picks', F1_take z (i3 s) picks many list (i3 n) = some (picks', upd many s (i3 n)) ∧ (∀ k, k < n → picks' s k = list k) ∧ ∀ s', s' ≠ s → picks' s' = picks s' := by
  have loop : ∀ (rem w k : Nat) (picks : Nat → Nat → Int32) (many : Nat → Int32), k + rem = n → rem < w → (∀ j, j < k → picks s j = list j) → ∃ picks', F1_take_b12 z w (i3 s) (i3 k) picks many list (i3 n) = some (picks', many) ∧ (∀ k, k < n → picks' s k = list k) ∧ ∀ s', s' ≠ s → picks' s' = picks s' := by
    intro rem
    induction rem with
    | zero =>
      intro w k picks many hk hw h
      obtain ⟨w, rfl⟩ : ∃ w', w = w' + 1 := ⟨w - 1, by omega⟩
      refine ⟨picks, ?_, fun j hj => h j (by omega), fun _ _ => rfl⟩
      unfold F1_take_b12
      rw [if_pos (by rw [i3_le (by omega) (by omega) (by omega) (by omega)]; omega)]
    | succ rem ih =>
      intro w k picks many hk hw h
      obtain ⟨w, rfl⟩ : ∃ w', w = w' + 1 := ⟨w - 1, by omega⟩
      unfold F1_take_b12
      rw [if_neg (by rw [i3_le (by omega) (by omega) (by omega) (by omega)]; omega)]
      simp (disch := omega) only [xg_in, i3_xnN]
      rw [i3_l1, i3_add]
      obtain ⟨picks', e, h1, h2⟩ := ih w (k + 1) (va_up picks s (upd (picks s) k (list k))) many (by omega) (by omega) (fun j hj => by
        rw [va_up_self]
        unfold upd
        by_cases q : j = k
        · rw [if_pos q, q]
        · rw [if_neg q]; exact h j (by omega))
      exact ⟨picks', e, h1, fun s' hne => by rw [h2 s' hne, va_up_ne _ _ hne]⟩
  obtain ⟨picks', e, h1, h2⟩ := loop n z 0 picks (upd many s (i3 n)) (by omega) (by omega) (fun j hj => by omega)
  refine ⟨picks', ?_, h1, h2⟩
  unfold F1_take
  rw [xg_in _ (by omega) (by omega) (by omega), i3_xnN (by omega)]
  exact e
/-- both books taken -/
theorem takeBooks_ok {z K : Nat} (hz : 20 ≤ z) {fo bN : Nat → Nat} {bI : Nat → Nat → Nat} {bList : Nat → Nat → Int32} {bMany told : Nat → Int32} (hB : BKr K fo bN bI bList bMany told) (picks : Nat → Nat → Int32) (gmany : Nat → Int32) : ∃ picks' gmany', F9_takeBooks z bList bMany picks gmany = some (picks', gmany') ∧ (∀ s, s < 2 → gmany' s = i3 (bN s : Nat)) ∧ ∀ s k, s < 2 → k < bN s → picks' s k = i3 (bI s k : Nat) := by
  obtain ⟨a1, a2, a3, a4, a5⟩ := hB 0 (by omega)
  obtain ⟨b1, b2, b3, b4, b5⟩ := hB 1 (by omega)
  obtain ⟨p1, e1, h1, h1'⟩ := F1_take_ok (z := z) hz (s := 0) (by omega) a1 picks gmany (bList 0)
  obtain ⟨p2, e2, h2, h2'⟩ := F1_take_ok (z := z) hz (s := 1) (by omega) b1 p1 (upd gmany 0 (i3 (bN 0 : Nat))) (bList 1)
  refine ⟨p2, upd (upd gmany 0 (i3 (bN 0 : Nat))) 1 (i3 (bN 1 : Nat)), ?_, fun s hs => ?_, fun s k hs hk => ?_⟩
  · unfold F9_takeBooks
    rw [a2]
    have e1' : F1_take z 0 picks gmany (bList 0) (i3 (bN 0 : Nat)) = _ := e1
    rw [e1']
    simp only [Option.bind_some]
    rw [b2]
    have e2' : F1_take z 1 p1 (upd gmany 0 (i3 (bN 0 : Nat))) (bList 1) (i3 (bN 1 : Nat)) = _ := e2
    rw [e2']
    rfl
  · rcases two_cases hs with rfl | rfl
    · rw [upd_diff _ _ (by decide), upd_same]
    · rw [upd_same]
  · rcases two_cases hs with rfl | rfl
    · rw [h2' 0 (by decide), h1 k hk, (a4 k hk).2.1]
    · rw [h2 k hk, (b4 k hk).2.1]
theorem haveBooks_ok {K : Nat} {fo bN : Nat → Nat} {bI : Nat → Nat → Nat} {bList : Nat → Nat → Int32} {bMany told : Nat → Int32} (hB : BKr K fo bN bI bList bMany told) : ((0 < bN 0 ∧ 0 < bN 1) → F9_haveBooks bMany = some 1 ∧ F10_areBooks told = some 1) ∧ (¬ (0 < bN 0 ∧ 0 < bN 1) → F9_haveBooks bMany = some 0 ∧ F10_areBooks told = some 0) := by
  obtain ⟨a1, a2, a3, a4, a5⟩ := hB 0 (by omega)
  obtain ⟨b1, b2, b3, b4, b5⟩ := hB 1 (by omega)
  have e0 : F10_booked 0 told = some (i3 (bN 0 : Nat)) := F10_booked_ok hB (s := 0) (by omega)
  have e1 : F10_booked 1 told = some (i3 (bN 1 : Nat)) := F10_booked_ok hB (s := 1) (by omega)
  unfold F9_haveBooks F10_areBooks
  rw [a2, b2, e0]
  simp only [Option.bind_some]
  rw [e1]
  simp only [Option.bind_some]
  by_cases q0 : 0 < bN 0
  · have c0 : ¬ i3 (bN 0 : Int) ≤ 0 := by rw [i3_l0, i3_le (by omega) (by omega) (by omega) (by omega)]; omega
    rw [if_neg c0]
    by_cases q1 : 0 < bN 1
    · have c1 : ¬ i3 (bN 1 : Int) ≤ 0 := by rw [i3_l0, i3_le (by omega) (by omega) (by omega) (by omega)]; omega
      rw [if_neg c1]
      exact ⟨fun _ => ⟨rfl, rfl⟩, fun q => absurd ⟨q0, q1⟩ q⟩
    · have c1 : i3 (bN 1 : Int) ≤ 0 := by rw [i3_l0, i3_le (by omega) (by omega) (by omega) (by omega)]; omega
      rw [if_pos c1]
      exact ⟨fun q => absurd q.2 q1, fun _ => ⟨rfl, rfl⟩⟩
  · have c0 : i3 (bN 0 : Int) ≤ 0 := by rw [i3_l0, i3_le (by omega) (by omega) (by omega) (by omega)]; omega
    rw [if_pos c0]
    exact ⟨fun q => absurd q.1 q0, fun _ => ⟨rfl, rfl⟩⟩
/-- the plain game -/
theorem plain_pk {bN : Nat → Nat} {bI : Nat → Nat → Nat} (s : Nat) : mmm bN (vp bN (-1) (-1) (-1)) s = bN s ∧ ∀ c, c < bN s → mpk bN (vp bN (-1) (-1) (-1)) (vm bN bI (-1)) s c = bI s c := by
  have ht : ∀ i, i < bN s → vp bN (-1) (-1) (-1) s i = true := fun i hi => by
    unfold vp; rw [decide_eq_true_eq]; exact Or.inl ⟨hi, by omega⟩
  have hf : vp bN (-1) (-1) (-1) s (bN s) = false := by
    unfold vp; rw [decide_eq_false_iff_not]; omega
  have e : cf (vp bN (-1) (-1) (-1) s) (bN s) = bN s := cf_all ht
  constructor
  · show cf (vp bN (-1) (-1) (-1) s) (bN s) + (if vp bN (-1) (-1) (-1) s (bN s) then 1 else 0) = bN s
    rw [e, hf]; rfl
  · intro c hc
    have ec : cf (vp bN (-1) (-1) (-1) s) c = c := cf_all (fun i hi => ht i (by omega))
    unfold mpk
    have := gt_at (p := vp bN (-1) (-1) (-1) s) (show c < bN s + 1 by omega) (ht c hc)
    rw [ec] at this
    rw [this]
    unfold vm
    rw [if_pos hc]
/-- the game by books, of both: from any side -/
theorem plain_game {z K : Nat} (hz : 1000 ≤ z) {W : Nat → Int} {t : Int} {fo : Nat → Nat} {told many eights gains : Nat → Int32} (hM : SM K W t fo told many eights gains) {bN : Nat → Nat} {bI : Nat → Nat → Nat} {bList : Nat → Nat → Int32} {bMany : Nat → Int32} (hB : BKr K fo bN bI bList bMany told) (hb : 0 < bN 0 ∧ 0 < bN 1) (picks : Nat → Nat → Int32) (gmany : Nat → Int32) (game : Nat → Int32) (rows cols : Int32) : (∃ picks' gmany', F9_takeBooks z bList bMany picks gmany = some (picks', gmany') ∧ PK K fo bI bN picks' gmany') ∧ ∀ s : Nat, s < 2 → ∃ game', F10_laysGame z (i3 s) (-1) (-1) (-1) told many eights gains game rows cols = some (game', i3 (bN s : Nat), i3 (bN (1 - s) : Nat)) ∧ GM (bN (1 - s)) (bN s) (gg K W t fo bI s) game' := by
  have hb' : ∀ s, s < 2 → 0 < bN s ∧ bN s ≤ 6 := fun s hs => by
    refine ⟨?_, (hB s hs).1⟩
    rcases two_cases hs with rfl | rfl
    · exact hb.1
    · exact hb.2
  constructor
  · obtain ⟨picks', gmany', e, h1, h2⟩ := takeBooks_ok (z := z) (by omega) hB picks gmany
    refine ⟨picks', gmany', e, fun s hs => ⟨(hb' s hs).1, by have := (hb' s hs).2; omega, h1 s hs⟩, fun s k hs hk => ⟨h2 s k hs hk, ((hB s hs).2.2.2.1 k hk).1⟩⟩
  · intro s hs
    have pp := fun s' => plain_pk (bN := bN) (bI := bI) s'
    obtain ⟨game', e, hG⟩ := laysGame_ok (z := z) (by omega) hM hB (p := vp bN (-1) (-1) (-1)) (m := vm bN bI (-1)) (x2 := -1) (x3 := -1) (x4 := -1) (fun s' i hs' hi => memberOf_ok (by omega) hM hB (q := -1) (wo := -1) (wi := -1) (by omega) (by omega) (by omega) hs' hi) (fun s' i hs' hi hp => by
      have hlt : i < bN s' := by
        unfold vp at hp
        rw [decide_eq_true_eq] at hp
        omega
      unfold vm
      rw [if_pos hlt]
      exact ((hB s' hs').2.2.2.1 i hlt).1) (fun s' hs' => by rw [(pp s').1]; exact hb' s' hs') hs game rows cols
    rw [(pp s).1, (pp (1 - s)).1] at e hG
    refine ⟨game', e, hG.1, hG.2.1, hG.2.2.1, hG.2.2.2.1, fun r c _ _ => gsd_bd hM.1 s _ _, fun i j hi hj => ?_⟩
    rw [hG.2.2.2.2.2 i j hi hj]
    unfold gg
    rw [(pp s).2 i hi, (pp (1 - s)).2 j hj]
theorem call_value {z K : Nat} (hz : 1000 ≤ z) {W : Nat → Int} {t : Int} {fo : Nat → Nat} {fields ties : Int32} {worth forces many : Nat → Int32} {codes : Nat → Nat → Int32} (hX : SX K W t fo fields ties worth forces many codes) {told manym eights gains : Nat → Int32} (hM : SM K W t fo told manym eights gains) {bN : Nat → Nat} {bI : Nat → Nat → Nat} {bList : Nat → Nat → Int32} {bMany : Nat → Int32} (hB : BKr K fo bN bI bList bMany told) (x1 thrown : Int32) (picks : Nat → Nat → Int32) (gmany : Nat → Int32) (table : Nat → Nat → Int64) (rowN colN : Nat → Int32) (grows gcols : Int32) (scale : Int64) (game : Nat → Int32) (rows cols isF : Int32) (bV bB : Int64) (bS sh mat sys : Nat → Int64) : ∃ v o p, F9_value z x1 fields ties worth codes bList bMany picks gmany table rowN colN grows gcols scale = some (v, o) ∧ F10_value z x1 thrown told manym eights gains game rows cols isF bV bB bS sh mat sys = some (v, 0, p) := by
  obtain ⟨a, rfl, h1, h2⟩ := i3_ex x1
  have hwi := within10' h1 h2 (l := 0) (h := 1) (by omega) (by omega) (by omega) (by omega) (L := 0) (H := 1) rfl rfl
  unfold F9_value F10_value
  rw [isPart9 a h1 h2]
  simp only [Option.bind_some]
  by_cases e : a = 0 ∨ a = 1
  · rw [if_pos e, if_neg n10, hwi.1 (by omega)]
    simp only [Option.bind_some]
    rw [if_neg n10]
    by_cases q : 0 < bN 0 ∧ 0 < bN 1
    · rw [((haveBooks_ok hB).1 q).1, ((haveBooks_ok hB).1 q).2]
      simp only [Option.bind_some]
      rw [if_neg n10, if_neg n10]
      obtain ⟨⟨picks', gmany', ep, hPK⟩, hg⟩ := plain_game hz hM hB q picks gmany game rows cols
      obtain ⟨game', eg, hG⟩ := hg 0 (by omega)
      obtain ⟨table', rowN', colN', scale', isF', bV', bB', bS', sh', mat', sys', X, V, xs, b, f, e9, e10, ev, ex, -, f1, f2, -, hX0, hX1, hb0, hb1, hV, -, hf, hfx, -⟩ := both_solve hz hX hPK (s := 0) (by omega) hG table rowN colN grows gcols scale isF bV bB bS sh mat sys
      have eg' : F10_laysGame z 0 (-1) (-1) (-1) told manym eights gains game rows cols = _ := eg
      have e9' : F1_solve z 0 picks' gmany' table rowN colN grows gcols scale fields ties worth codes = _ := e9
      rw [ep, eg']
      simp only [Option.bind_some]
      rw [e10]
      unfold F9_takenValue
      rw [e9']
      simp only [Option.bind_some]
      rw [ev, ex]
      simp only [Option.bind_some]
      have hf0 := hf 0 (by omega)
      rw [F9_lowest_ok (by omega) (by omega) (by omega) hX0 (by omega) e, f1, f2, F10_term_ok (by omega) (by omega) (by omega) hb0 (by omega) e, lowt_eq hb0 hX0 hfx a]
      exact ⟨_, _, _, rfl, rfl⟩
    · rw [((haveBooks_ok hB).2 q).1, ((haveBooks_ok hB).2 q).2]
      exact ⟨_, _, _, rfl, rfl⟩
  · rw [if_neg e, hwi.2 (by omega)]
    exact ⟨_, _, _, rfl, rfl⟩
theorem call_best {z K : Nat} (hz : 1000 ≤ z) {W : Nat → Int} {t : Int} {fo : Nat → Nat} {fields ties : Int32} {worth forces many : Nat → Int32} {codes : Nat → Nat → Int32} (hX : SX K W t fo fields ties worth forces many codes) {told manym eights gains : Nat → Int32} (hM : SM K W t fo told manym eights gains) {bN : Nat → Nat} {bI : Nat → Nat → Nat} {bList : Nat → Nat → Int32} {bMany : Nat → Int32} (hB : BKr K fo bN bI bList bMany told) (x1 x2 x3 thrown : Int32) (picks : Nat → Nat → Int32) (gmany : Nat → Int32) (table : Nat → Nat → Int64) (rowN colN : Nat → Int32) (grows gcols : Int32) (scale : Int64) (game : Nat → Int32) (rows cols isF : Int32) (bV bB : Int64) (bS sh mat sys : Nat → Int64) : ∃ v o p, F9_best z x1 x2 x3 fields ties worth codes bList bMany picks gmany table rowN colN grows gcols scale = some (v, o) ∧ F10_best z x1 x2 x3 thrown told manym eights gains game rows cols isF bV bB bS sh mat sys = some (v, 0, p) := by
  obtain ⟨a, rfl, h1, h2⟩ := i3_ex x1
  obtain ⟨b, rfl, h3, h4⟩ := i3_ex x2
  obtain ⟨c, rfl, h5, h6⟩ := i3_ex x3
  have hwi := within10' h5 h6 (l := 0) (h := 1) (by omega) (by omega) (by omega) (by omega) (L := 0) (H := 1) rfl rfl
  unfold F9_best F10_best
  rw [isSide9 a h1 h2, isSide10 a h1 h2, isPart9 c h5 h6]
  simp only [Option.bind_some]
  by_cases e : a = 0 ∨ a = 1
  · obtain ⟨s, hs, ea⟩ : ∃ s : Nat, s < 2 ∧ a = s := ⟨a.toNat, by omega, by omega⟩
    subst ea
    rw [if_pos e, if_neg n10, if_neg n10]
    by_cases ec : c = 0 ∨ c = 1
    · rw [if_pos ec, if_neg n10, hwi.1 (by omega)]
      simp only [Option.bind_some]
      rw [if_neg n10]
      by_cases q : 0 < bN 0 ∧ 0 < bN 1
      · rw [((haveBooks_ok hB).1 q).1, ((haveBooks_ok hB).1 q).2]
        simp only [Option.bind_some]
        rw [if_neg n10, if_neg n10, F10_booked_ok hB hs]
        obtain ⟨b1, b2, b3, b4, b5⟩ := hB s hs
        simp only [Option.bind_some]
        have hwb := within10' h3 h4 (l := 0) (h := (bN s : Int) - 1) (by omega) (by omega) (by omega) (by omega) (L := 0) (H := i3 (bN s : Int) - 1) rfl (by rw [i3_l1, i3_sub])
        by_cases q2 : 0 ≤ b ∧ b ≤ (bN s : Int) - 1
        · obtain ⟨k, ek⟩ : ∃ k : Nat, b = k := ⟨b.toNat, by omega⟩
          subst ek
          rw [hwb.1 q2, if_neg (show ¬ i3 (k : Int) < 0 by rw [i3_l0, i3_lt (by omega) (by omega) (by omega) (by omega)]; omega)]
          simp (disch := omega) only [Option.bind_some, xg_in, i3_xnN]
          rw [b2, if_pos (show i3 (k : Int) < i3 (bN s : Int) by rw [i3_lt (by omega) (by omega) (by omega) (by omega)]; omega), if_neg n10]
          obtain ⟨⟨picks', gmany', ep, hPK⟩, hg⟩ := plain_game hz hM hB q picks gmany game rows cols
          obtain ⟨game', eg, hG⟩ := hg s hs
          obtain ⟨table', rowN', colN', scale', isF', bV', bB', bS', sh', mat', sys', X, V, xs, b', f, e9, e10, ev, ex, exs, f1, f2, f3, hX0, hX1, hb0, hb1, hV, hxs, hf, -, hfx⟩ := both_solve hz hX hPK hs hG table rowN colN grows gcols scale isF bV bB bS sh mat sys
          rw [ep, eg]
          simp only [Option.bind_some]
          rw [e9, e10]
          simp only [Option.bind_some]
          rw [exs k (by omega), ex, f3 k (by omega), f2]
          simp only [Option.bind_some]
          have hfk := hf (k + 1) (by omega)
          have hxk := hxs k (by omega)
          rw [F9_lowest_ok (by omega) (by omega) (by omega) hX0 (by omega) ec, F10_term_ok (by omega) (by omega) (by omega) hb0 (by omega) ec, lowt_eq hb0 hX0 (hfx k (by omega)) c]
          exact ⟨_, _, _, rfl, rfl⟩
        · rw [hwb.2 q2]
          simp (disch := omega) only [Option.bind_some, xg_in, i3_xnN, if_true]
          rw [b2]
          by_cases q3 : b < 0
          · rw [if_pos (show i3 b < 0 by rw [i3_l0, i3_lt (by omega) (by omega) (by omega) (by omega)]; exact q3)]
            exact ⟨_, _, _, rfl, rfl⟩
          · rw [if_neg (show ¬ i3 b < 0 by rw [i3_l0, i3_lt (by omega) (by omega) (by omega) (by omega)]; exact q3), if_neg (show ¬ i3 b < i3 (bN s : Int) by rw [i3_lt (by omega) (by omega) (by omega) (by omega)]; omega)]
            exact ⟨_, _, _, rfl, rfl⟩
      · rw [((haveBooks_ok hB).2 q).1, ((haveBooks_ok hB).2 q).2]
        exact ⟨_, _, _, rfl, rfl⟩
    · rw [if_neg ec, hwi.2 (by omega)]
      exact ⟨_, _, _, rfl, rfl⟩
  · rw [if_neg e]
    exact ⟨_, _, _, rfl, rfl⟩
