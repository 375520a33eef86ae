/-! ===== the game by books, laid by both ===== -/
/-- members: which places of a row (with one more) have one, and which -/
def mpk (bN : Nat → Nat) (p : Nat → Nat → Bool) (m : Nat → Nat → Nat) (s c : Nat) : Nat := m s (gt (p s) (bN s + 1) c)
def mmm (bN : Nat → Nat) (p : Nat → Nat → Bool) (s : Nat) : Nat := cf (p s) (bN s + 1)
theorem laysGame_inner {z K : Nat} {W : Nat → Int} {t : Int} {fo bN : Nat → Nat} {bI : Nat → Nat → Nat} {bList : Nat → Nat → Int32} {bMany told many eights gains : Nat → Int32} (hM : SM K W t fo told many eights gains) (hB : BKr K fo bN bI bList bMany told) {p : Nat → Nat → Bool} {m : Nat → Nat → Nat} {x2 x3 x4 : Int32} (hmem : ∀ s i, s < 2 → i ≤ bN s → F10_memberOf z (i3 s) (i3 i) x2 x3 x4 told many eights = some (if p s i then i3 (m s i : Nat) else -1)) (hmv : ∀ s i, s < 2 → i ≤ bN s → p s i = true → m s i < ns K (fo s)) {s : Nat} (hs : s < 2) (hmo : mmm bN p (1 - s) ≤ 6) {own r : Nat} (hown : own < ns K (fo s)) (hr : r < 7) (x5 : Int32) (k13 : Int32 → Int32 → Int32 → Int32 → Int32 → (Nat → Int32) → (Nat → Int32) → (Nat → Int32) → (Nat → Int32) → (Nat → Int32) → Int32 → Int32 → Option ((Nat → Int32) × Int32 × Int32)) : ∀ (rem w j : Nat) (game : Nat → Int32), j + rem = bN (1 - s) + 1 → rem < w → ∃ game', F10_laysGame_b52 z w (i3 s) x2 x3 x4 x5 (i3 own) (i3 j) told many eights gains game (i3 r) (i3 (cf (p (1 - s)) j : Nat)) k13 = F10_laysGame_b129 z (i3 s) x2 x3 x4 x5 told many eights gains game' (i3 r) (i3 (mmm bN p (1 - s) : Nat)) k13 ∧ ∀ a b, b < 8 → game' (8 * a + b) = if a = r ∧ cf (p (1 - s)) j ≤ b ∧ b < mmm bN p (1 - s) then i3 (gsd K W t fo s own (mpk bN p m (1 - s) b)) else game (8 * a + b) := by
  have hs' : 1 - s < 2 := by omega
  have hb6 := (hB (1 - s) hs').1
  intro rem
  induction rem with
  | zero =>
    intro w j game hj hw
    obtain ⟨w, rfl⟩ : ∃ w', w = w' + 1 := ⟨w - 1, by omega⟩
    have e : j = bN (1 - s) + 1 := by omega
    subst e
    refine ⟨game, ?_, fun a b hb => by rw [if_neg (by unfold mmm; omega)]⟩
    unfold F10_laysGame_b52
    rw [one_sub hs, F10_booked_ok hB hs']
    simp only [Option.bind_some]
    rw [i3_l1, i3_add, if_pos (by rw [i3_le (by omega) (by omega) (by omega) (by omega)]; omega)]
    rfl
  | succ rem ih =>
    intro w j game hj hw
    obtain ⟨w, rfl⟩ : ∃ w', w = w' + 1 := ⟨w - 1, by omega⟩
    have hcc : ((j : Nat) : Int) + 1 = ((j + 1 : Nat) : Int) := by omega
    have hcj := cf_le (p (1 - s)) j
    unfold F10_laysGame_b52
    rw [one_sub hs, F10_booked_ok hB hs']
    simp only [Option.bind_some]
    rw [show i3 (bN (1 - s) : Int) + 1 = i3 ((bN (1 - s) + 1 : Nat) : Int) from by rw [i3_l1, i3_add]; rfl, if_neg (by rw [i3_le (by omega) (by omega) (by omega) (by omega)]; omega), hmem (1 - s) j hs' (by omega)]
    simp only [Option.bind_some]
    unfold F10_laysGame_b123
    by_cases hp : p (1 - s) j = true
    · have e1 : cf (p (1 - s)) (j + 1) = cf (p (1 - s)) j + 1 := by
        show cf (p (1 - s)) j + (if p (1 - s) j then 1 else 0) = _
        rw [if_pos hp]
      have hle : cf (p (1 - s)) (j + 1) ≤ mmm bN p (1 - s) := cf_mono (by omega)
      have hmv' := hmv (1 - s) j hs' (by omega) hp
      have n1 := ns_bd hM.1 (hM.2.1 (1 - s) hs')
      rw [if_pos hp, if_neg (by rw [i3_m1, i3_eq (by omega) (by omega) (by omega) (by omega)]; omega), F10_gainFor_ok hM hs hown hmv']
      simp only [Option.bind_some]
      rw [i3_8]
      simp (disch := omega) only [xg_in, i3_xnN]
      rw [i3_l1, i3_add, i3_add, hcc]
      obtain ⟨game', e, h⟩ := ih w (j + 1) (upd game (8 * r + cf (p (1 - s)) j) (i3 (gsd K W t fo s own (m (1 - s) j)))) (by omega) (by omega)
      rw [e1] at e
      refine ⟨game', e, fun a b hb => ?_⟩
      rw [h a b hb, e1]
      by_cases h1 : a = r ∧ cf (p (1 - s)) j + 1 ≤ b ∧ b < mmm bN p (1 - s)
      · rw [if_pos h1, if_pos (by omega)]
      · rw [if_neg h1]
        unfold upd
        by_cases h2 : a = r ∧ b = cf (p (1 - s)) j
        · rw [if_pos (by omega), if_pos (by omega), h2.2]
          unfold mpk
          rw [gt_at (show j < bN (1 - s) + 1 by omega) hp]
        · rw [if_neg (by omega), if_neg (by omega)]
    · have e1 : cf (p (1 - s)) (j + 1) = cf (p (1 - s)) j := by
        show cf (p (1 - s)) j + (if p (1 - s) j then 1 else 0) = _
        rw [if_neg hp]; rfl
      rw [if_neg hp, if_pos rfl, i3_l1, i3_add, hcc, ← e1]
      exact ih w (j + 1) game (by omega) (by omega)
theorem laysGame_ok {z K : Nat} (hz : 20 ≤ z) {W : Nat → Int} {t : Int} {fo bN : Nat → Nat} {bI : Nat → Nat → Nat} {bList : Nat → Nat → Int32} {bMany told many eights gains : Nat → Int32} (hM : SM K W t fo told many eights gains) (hB : BKr K fo bN bI bList bMany told) {p : Nat → Nat → Bool} {m : Nat → Nat → Nat} {x2 x3 x4 : Int32} (hmem : ∀ s i, s < 2 → i ≤ bN s → F10_memberOf z (i3 s) (i3 i) x2 x3 x4 told many eights = some (if p s i then i3 (m s i : Nat) else -1)) (hmv : ∀ s i, s < 2 → i ≤ bN s → p s i = true → m s i < ns K (fo s)) (hmm : ∀ s, s < 2 → 0 < mmm bN p s ∧ mmm bN p s ≤ 6) {s : Nat} (hs : s < 2) (game : Nat → Int32) (rows cols : Int32) : ∃ game', F10_laysGame z (i3 s) x2 x3 x4 told many eights gains game rows cols = some (game', i3 (mmm bN p s : Nat), i3 (mmm bN p (1 - s) : Nat)) ∧ GM (mmm bN p (1 - s)) (mmm bN p s) (gg K W t fo (mpk bN p m) s) game' := by
  have hs' : 1 - s < 2 := by omega
  have hb6 := (hB s hs).1
  have hb6' := (hB (1 - s) hs').1
  have n0 := ns_bd hM.1 (hM.2.1 s hs)
  have loop : ∀ (rem w i : Nat) (game : Nat → Int32) (cols : Int32), i + rem = bN s + 1 → rem < w → ((i = 0 ∨ cf (p s) i = 0) ∨ cols = i3 (mmm bN p (1 - s) : Nat)) → ∃ game', F10_laysGame_b13 z w (i3 s) x2 x3 x4 (i3 i) told many eights gains game (i3 (cf (p s) i : Nat)) cols = some (game', i3 (mmm bN p s : Nat), i3 (mmm bN p (1 - s) : Nat)) ∧ ∀ a b, b < mmm bN p (1 - s) → game' (8 * a + b) = if cf (p s) i ≤ a ∧ a < mmm bN p s then i3 (gsd K W t fo s (mpk bN p m s a) (mpk bN p m (1 - s) b)) else game (8 * a + b) := by
    intro rem
    induction rem with
    | zero =>
      intro w i game cols hi hw hc
      obtain ⟨w, rfl⟩ : ∃ w', w = w' + 1 := ⟨w - 1, by omega⟩
      have e : i = bN s + 1 := by omega
      subst e
      have hpos := (hmm s hs).1
      unfold mmm at hpos
      have ec : cols = i3 (mmm bN p (1 - s) : Nat) := by
        rcases hc with q | q
        · omega
        · exact q
      refine ⟨game, ?_, fun a b hb => by rw [if_neg (by unfold mmm; omega)]⟩
      unfold F10_laysGame_b13
      rw [F10_booked_ok hB hs]
      simp only [Option.bind_some]
      rw [i3_l1, i3_add, if_pos (by rw [i3_le (by omega) (by omega) (by omega) (by omega)]; omega), ec]
      rfl
    | succ rem ih =>
      intro w i game cols hi hw hc
      obtain ⟨w, rfl⟩ : ∃ w', w = w' + 1 := ⟨w - 1, by omega⟩
      have hcc : ((i : Nat) : Int) + 1 = ((i + 1 : Nat) : Int) := by omega
      unfold F10_laysGame_b13
      rw [F10_booked_ok hB hs]
      simp only [Option.bind_some]
      rw [show i3 (bN s : Int) + 1 = i3 ((bN s + 1 : Nat) : Int) from by rw [i3_l1, i3_add]; rfl, if_neg (by rw [i3_le (by omega) (by omega) (by omega) (by omega)]; omega), hmem s i hs (by omega)]
      simp only [Option.bind_some]
      by_cases hp : p s i = true
      · have e1 : cf (p s) (i + 1) = cf (p s) i + 1 := by
          show cf (p s) i + (if p s i then 1 else 0) = _
          rw [if_pos hp]
        have hle : cf (p s) (i + 1) ≤ mmm bN p s := cf_mono (by omega)
        have hm6 := (hmm s hs).2
        have hmv' := hmv s i hs (by omega) hp
        rw [if_pos hp, if_neg (by rw [i3_m1, i3_eq (by omega) (by omega) (by omega) (by omega)]; omega)]
        obtain ⟨game1, eg, hg⟩ := laysGame_inner (z := z) hM hB hmem hmv hs (hmm (1 - s) hs').2 hmv' (r := cf (p s) i) (by omega) (i3 i) (fun q0 q1 q2 q3 q4 q5 q6 q7 q8 q9 q10 q11 => F10_laysGame_b13 z w q0 q1 q2 q3 q4 q5 q6 q7 q8 q9 q10 q11) (bN (1 - s) + 1) z 0 game (by omega) (by omega)
        have eg' : F10_laysGame_b52 z z (i3 s) x2 x3 x4 (i3 i) (i3 (m s i : Nat)) 0 told many eights gains game (i3 (cf (p s) i : Nat)) 0 (fun q0 q1 q2 q3 q4 q5 q6 q7 q8 q9 q10 q11 => F10_laysGame_b13 z w q0 q1 q2 q3 q4 q5 q6 q7 q8 q9 q10 q11) = _ := eg
        rw [eg']
        unfold F10_laysGame_b129 F10_laysGame_b139
        rw [i3_l1, i3_add, i3_add, hcc]
        obtain ⟨game', e, h⟩ := ih w (i + 1) game1 (i3 (mmm bN p (1 - s) : Nat)) (by omega) (by omega) (Or.inr rfl)
        rw [e1] at e
        refine ⟨game', e, fun a b hb => ?_⟩
        have hm6' := (hmm (1 - s) hs').2
        rw [h a b hb, e1]
        by_cases h1 : cf (p s) i + 1 ≤ a ∧ a < mmm bN p s
        · rw [if_pos h1, if_pos (by omega)]
        · rw [if_neg h1, hg a b (by omega)]
          have hc0 : cf (p (1 - s)) 0 = 0 := rfl
          by_cases h2 : a = cf (p s) i
          · rw [if_pos (by omega), if_pos (by omega), h2]
            unfold mpk
            rw [gt_at (show i < bN s + 1 by omega) hp]
          · rw [if_neg (by omega), if_neg (by omega)]
      · have e1 : cf (p s) (i + 1) = cf (p s) i := by
          show cf (p s) i + (if p s i then 1 else 0) = _
          rw [if_neg hp]; rfl
        unfold F10_laysGame_b139
        rw [if_neg hp, if_pos rfl, i3_l1, i3_add, hcc, ← e1]
        refine ih w (i + 1) game cols (by omega) (by omega) ?_
        rcases hc with q | q
        · left; right
          rw [e1]
          rcases q with q | q
          · rw [q]; rfl
          · exact q
        · exact Or.inr q
  obtain ⟨game', e, h⟩ := loop (bN s + 1) z 0 game 0 (by omega) (by omega) (Or.inl (Or.inl rfl))
  have hs1 := hmm s hs
  have hs2 := hmm (1 - s) hs'
  refine ⟨game', e, hs2.1, by omega, hs1.1, by omega, fun r c _ _ => gsd_bd hM.1 s _ _, fun i j hi hj => ?_⟩
  have hc0 : cf (p s) 0 = 0 := rfl
  rw [h i j hj, if_pos (by omega)]
  rfl
/-- both solve one game -/
theorem both_solve {z K : Nat} (hz : 1000 ≤ z) {W : Nat → Int} {t : Int} {fo : Nat → Nat} {fields ties : Int32} {worth forces many : Nat → Int32} {codes : Nat → Nat → Int32} (hX : SX K W t fo fields ties worth forces many codes) {pk : Nat → Nat → Nat} {mm : Nat → Nat} {picks : Nat → Nat → Int32} {gmany : Nat → Int32} (hP : PK K fo pk mm picks gmany) {s : Nat} (hs : s < 2) {game : Nat → Int32} (hG : GM (mm (1 - s)) (mm s) (gg K W t fo pk s) game) (table : Nat → Nat → Int64) (rowN colN : Nat → Int32) (rows cols : Int32) (scale : Int64) (isF : Int32) (bV bB : Int64) (bS sh mat sys : Nat → Int64) : ∃ (table' : Nat → Nat → Int64) (rowN' colN' : Nat → Int32) (scale' : Int64) (isF' : Int32) (bV' bB' : Int64) (bS' sh' mat' sys' : Nat → Int64) (X V : Int) (xs : Nat → Int) (b : Int) (f : Nat → Int), F1_solve z (i3 s) picks gmany table rowN colN rows cols scale fields ties worth codes = some (table', rowN', colN', i3 (mm (1 - s) : Nat), i3 (mm s : Nat), scale') ∧ F10_solves z game (i3 (mm s : Nat)) (i3 (mm (1 - s) : Nat)) isF bV bB bS sh mat sys = some (isF', bV', bB', bS', sh', mat', sys') ∧
    F1_valueAbove table' (i3 (mm (1 - s) : Nat)) (i3 (mm s : Nat)) scale' = some (i6 V) ∧ F1_shareBelow table' (i3 (mm (1 - s) : Nat)) (i3 (mm s : Nat)) = some (i6 X) ∧ (∀ k, k < mm s → F1_shareAbove z (i3 k) table' rowN' (i3 (mm (1 - s) : Nat)) (i3 (mm s : Nat)) = some (i6 (xs k))) ∧ bV' = i6 (f 0) ∧ bB' = i6 b ∧ (∀ k, k < mm s → bS' k = i6 (f (k + 1))) ∧ 0 < X ∧ X ≤ 141557760 ∧ 0 < b ∧ b ≤ 1462763520 ∧ (-188743680 ≤ V ∧ V ≤ 188743680) ∧ (∀ k, k < mm s → -1462763520 ≤ xs k ∧ xs k ≤ 1462763520) ∧ (∀ k, k < mm s + 1 → -1462763520 ≤ f k ∧ f k ≤ 1462763520) ∧ f 0 * X = V * b ∧ (∀ k, k < mm s → f (k + 1) * X = xs k * b) := by
  have hs' : 1 - s < 2 := by omega
  obtain ⟨m1, m2, m3⟩ := hP.1 (1 - s) hs'
  obtain ⟨n1, n2, n3⟩ := hP.1 s hs
  have hg : ∀ r c, r < mm (1 - s) → c < mm s → -8 ≤ gg K W t fo pk s r c ∧ gg K W t fo pk s r c ≤ 8 := fun r c _ _ => gsd_bd hX.1 s _ _
  obtain ⟨table', rowN', colN', scale', ss, e9, hT, hO, hSB⟩ := F1_solve_ok hX hz hP hs table rowN colN rows cols scale
  obtain ⟨fd', b', f', isF', bV', bB', bS', sh', mat', sys', e10, hR, hBI⟩ := F10_solves_ok (z := z) (by omega) hG isF bV bB bS sh mat sys
  obtain ⟨hfd, hb, hfx⟩ := solves_same hG hO hBI
  obtain ⟨r1, r2, r3, r4, r5, r6⟩ := hR.2 hfd
  have hX0 := opt_X hO n1 hg
  -- bounds of what is asked of the class's table
  have hbB : ∀ i q, i < mm (1 - s) + 1 → q < mm (1 - s) + 1 → i ≠ mm (1 - s) → - bd (mm (1 - s)) i q ≤ Bs (mm (1 - s)) (mm s) (gg K W t fo pk s) ss.2.2.1 i q ∧ Bs (mm (1 - s)) (mm s) (gg K W t fo pk s) ss.2.2.1 i q ≤ bd (mm (1 - s)) i q := fun i q hi hq hne => by
    rw [Bs_lt (show i < mm (1 - s) by omega)]
    exact cv_bd hg i _ q hq
  have chkX : (List.range 7).all (fun m => decide (pm (m + 1) (fun i q => if i < m then bd m i q else (if q < m then 1 else 0)) ≤ 141557760) && decide (pm (m + 1) (fun i q => if i < m then bd m i q else (if q < m then 0 else 1)) ≤ 188743680)) = true := by decide +kernel
  have chkm := List.all_eq_true.mp chkX (mm (1 - s)) (List.mem_range.mpr m2)
  simp only [Bool.and_eq_true, decide_eq_true_eq] at chkm
  have hXb : ss.1 (mm (1 - s)) (mm s) ≤ 141557760 := by
    have hR0 := hO.1.2.2.2.2.2.1 (mm (1 - s)) (by omega)
    have := dt_bound (n := mm (1 - s) + 1) (M := st (Bs (mm (1 - s)) (mm s) (gg K W t fo pk s) ss.2.2.1) (mm (1 - s)) (rv (mm (1 - s)))) (b := fun i q => if i < mm (1 - s) then bd (mm (1 - s)) i q else (if q < mm (1 - s) then 1 else 0)) (fun i q hi hq => by
      unfold st
      by_cases h : i = mm (1 - s)
      · rw [if_pos h]
        simp only [if_neg (show ¬ i < mm (1 - s) by omega)]
        unfold rv
        split <;> omega
      · rw [if_neg h]
        simp only [if_pos (show i < mm (1 - s) by omega)]
        exact hbB i q hi hq h)
    rw [← hR0] at this
    omega
  have hVb : -188743680 ≤ 9 * ss.1 (mm (1 - s)) (mm s) - ss.2.1 ∧ 9 * ss.1 (mm (1 - s)) (mm s) - ss.2.1 ≤ 188743680 := by
    have hR0 := hO.1.2.2.2.2.2.1 (mm (1 - s)) (by omega)
    have hD := hO.1.2.2.1
    have hz0 : Bs (mm (1 - s)) (mm s) (gg K W t fo pk s) ss.2.2.1 (mm (1 - s)) = zc (mm (1 - s)) := Bs_m _ _ _ _
    have hlin := dt_lin (n := mm (1 - s) + 1) (Bs (mm (1 - s)) (mm s) (gg K W t fo pk s) ss.2.2.1) (r := mm (1 - s)) 9 (-1) (rv (mm (1 - s))) (zc (mm (1 - s))) (by omega)
    rw [← hz0, st_id, hz0, ← hR0, ← hD] at hlin
    have := dt_bound (n := mm (1 - s) + 1) (M := st (Bs (mm (1 - s)) (mm s) (gg K W t fo pk s) ss.2.2.1) (mm (1 - s)) (fun q => 9 * rv (mm (1 - s)) q + -1 * zc (mm (1 - s)) q)) (b := fun i q => if i < mm (1 - s) then bd (mm (1 - s)) i q else (if q < mm (1 - s) then 0 else 1)) (fun i q hi hq => by
      unfold st
      by_cases h : i = mm (1 - s)
      · rw [if_pos h]
        simp only [if_neg (show ¬ i < mm (1 - s) by omega)]
        unfold rv zc
        split <;> omega
      · rw [if_neg h]
        simp only [if_pos (show i < mm (1 - s) by omega)]
        exact hbB i q hi hq h)
    rw [hlin] at this
    omega
  have hbdT := hSB.2.2.2.2.2.1
  have hsc := hSB.2.2.2.2.2.2
  refine ⟨table', rowN', colN', scale', isF', bV', bB', bS', sh', mat', sys', ss.1 (mm (1 - s)) (mm s), 9 * ss.1 (mm (1 - s)) (mm s) - ss.2.1, fun k => gl (mm (1 - s)) (mm s) ss (k + 1), b', f', e9, e10, ?_, ?_, fun k hk => ?_, r1, r2, r3, hX0, hXb, r5, r6, hVb, fun k hk => ?_, r4, ?_, fun k hk => ?_⟩
  · unfold F1_valueAbove
    rw [hT.2.2.2]
    simp (disch := omega) only [xg_in, i3_xnN]
    rw [hT.1 _ _ (by omega) (by omega), i6_l9, i6_mul, i6_sub]
  · unfold F1_shareBelow
    simp (disch := omega) only [xg_in, i3_xnN]
    rw [hT.1 _ _ (by omega) (by omega)]
  · unfold F1_shareAbove
    rw [F1_rowOf_ok hSB hT (show 10 ≤ z by omega) (show k < 100 by omega)]
    simp only [Option.bind_some]
    have egl : gl (mm (1 - s)) (mm s) ss (k + 1) = sm (mm (1 - s)) (fun i => if ss.2.2.1 i = k then ss.1 i (mm s) else 0) := rfl
    rcases row_val hO.1.1 k (mm s) with ⟨ef, ev⟩ | ⟨i, hi, -, ef, ev⟩
    · rw [ef, if_pos i3_m1.symm, egl, ev]
      rfl
    · rw [ef, if_neg (by rw [i3_m1, i3_eq (by omega) (by omega) (by omega) (by omega)]; omega), egl, ev]
      simp (disch := omega) only [xg_in, i3_xnN]
      rw [hT.1 i _ (by omega) (by omega)]
  · have egl : gl (mm (1 - s)) (mm s) ss (k + 1) = sm (mm (1 - s)) (fun i => if ss.2.2.1 i = k then ss.1 i (mm s) else 0) := rfl
    show -1462763520 ≤ gl (mm (1 - s)) (mm s) ss (k + 1) ∧ gl (mm (1 - s)) (mm s) ss (k + 1) ≤ 1462763520
    rcases row_val hO.1.1 k (mm s) with ⟨ef, ev⟩ | ⟨i, hi, -, ef, ev⟩
    · rw [egl, ev]; omega
    · rw [egl, ev]
      exact hbdT i (mm s) (by omega) (by omega)
  · exact hfx 0 (by omega)
  · exact hfx (k + 1) (by omega)
