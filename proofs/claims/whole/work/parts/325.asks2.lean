/-- the system, column by column of the game -/
theorem F10_asks_b29_ok {z m n : Nat} {g : Nat → Nat → Int} {game : Nat → Int32} (hG : GM m n g game) {so ti : Nat} (hso : so < 64) {q j : Nat} (hq : q < 7) (hj : j < m) {isF : Int32} {bV bB : Int64} {bS sh mat : Nat → Int64} (k5 : Int32 → Int32 → Int32 → Int32 → (Nat → Int32) → Int32 → Int32 → Int32 → Int64 → Int64 → (Nat → Int64) → (Nat → Int64) → (Nat → Int64) → (Nat → Int64) → Option (Int32 × Int64 × Int64 × (Nat → Int64) × (Nat → Int64) × (Nat → Int64) × (Nat → Int64))) : ∀ (rem w i : Nat) (sys : Nat → Int64), i + rem = n → rem < w → ∃ sys', F10_asks_b29 z w (i3 so) (i3 ti) (i3 q) (i3 j) (i3 (cf (fun k => so.testBit k) i : Nat)) (i3 i) game (i3 n) (i3 m) isF bV bB bS sh mat sys k5 = k5 (i3 so) (i3 ti) (i3 ((q + 1 : Nat) : Int)) (i3 ((j + 1 : Nat) : Int)) game (i3 n) (i3 m) isF bV bB bS sh mat sys' ∧ ∀ a b, a < 8 → b < 8 → sys' (8 * a + b) = if a = q ∧ b = cf (fun k => so.testBit k) n then i6 (-1) else if a = q ∧ cf (fun k => so.testBit k) i ≤ b ∧ b < cf (fun k => so.testBit k) n then i6 (g j (gt (fun k => so.testBit k) n b)) else sys (8 * a + b) := by
  obtain ⟨hm0, hm, hn0, hn, hg, hgm⟩ := hG
  have hcn := cf_le (fun k => so.testBit k) n
  intro rem
  induction rem with
  | zero =>
    intro w i sys hi hw
    obtain ⟨w, rfl⟩ : ∃ w', w = w' + 1 := ⟨w - 1, by omega⟩
    have e : i = n := by omega
    subst e
    refine ⟨vp_updL sys (8 * q + cf (fun k => so.testBit k) i) (i6 (-1)), ?_, fun a b ha hb => ?_⟩
    · unfold F10_asks_b29 F10_asks_b82 F10_asks_b100
      rw [if_pos (by rw [i3_le (by omega) (by omega) (by omega) (by omega)]; omega), i3_8]
      simp (disch := omega) only [xg_in, i3_xnN]
      rw [i3_l1, i3_add, i3_add]
      rfl
    · rw [vpL_at]
      by_cases h : a = q ∧ b = cf (fun k => so.testBit k) i
      · rw [if_pos (by omega), if_pos h]
      · rw [if_neg (by omega), if_neg h, if_neg (by omega)]
  | succ rem ih =>
    intro w i sys hi hw
    obtain ⟨w, rfl⟩ : ∃ w', w = w' + 1 := ⟨w - 1, by omega⟩
    have hcc : ((i : Nat) : Int) + 1 = ((i + 1 : Nat) : Int) := by omega
    have hci := cf_le (fun k => so.testBit k) i
    unfold F10_asks_b29 F10_asks_b76
    rw [if_neg (by rw [i3_le (by omega) (by omega) (by omega) (by omega)]; omega), F10_has_ok hso (by omega)]
    simp only [Option.bind_some]
    by_cases hp : so.testBit i = true
    · have e1 : cf (fun k => so.testBit k) (i + 1) = cf (fun k => so.testBit k) i + 1 := by
        show cf (fun k => so.testBit k) i + (if so.testBit i then 1 else 0) = _
        rw [if_pos hp]
      have hle : cf (fun k => so.testBit k) (i + 1) ≤ cf (fun k => so.testBit k) n := cf_mono (by omega)
      rw [if_pos hp, if_neg (by decide), i3_8, i3_8]
      simp (disch := omega) only [xg_in, i3_xnN]
      have hb := hg j i hj (by omega)
      rw [hgm i j (by omega) hj, i3_toI6 (by omega) (by omega), i3_l1, i3_add, i3_add, hcc]
      obtain ⟨sys', e, h⟩ := ih w (i + 1) (vp_updL sys (8 * q + cf (fun k => so.testBit k) i) (i6 (g j i))) (by omega) (by omega)
      rw [e1] at e
      refine ⟨sys', e, fun a b ha hb => ?_⟩
      rw [h a b ha hb, vpL_at, e1]
      by_cases h1 : a = q ∧ b = cf (fun k => so.testBit k) n
      · rw [if_pos h1, if_pos h1]
      · rw [if_neg h1, if_neg h1]
        by_cases h2 : a = q ∧ cf (fun k => so.testBit k) i + 1 ≤ b ∧ b < cf (fun k => so.testBit k) n
        · rw [if_pos h2, if_pos (by omega)]
        · rw [if_neg h2]
          by_cases h3 : a = q ∧ b = cf (fun k => so.testBit k) i
          · rw [if_pos (by omega), if_pos (by omega), h3.2, gt_at (p := fun k => so.testBit k) (show i < n by omega) hp]
          · rw [if_neg (by omega), if_neg (by omega)]
    · have e1 : cf (fun k => so.testBit k) (i + 1) = cf (fun k => so.testBit k) i := by
        show cf (fun k => so.testBit k) i + (if so.testBit i then 1 else 0) = _
        rw [if_neg hp]; rfl
      rw [if_neg hp]
      simp only [if_true]
      rw [i3_l1, i3_add, hcc, ← e1]
      exact ih w (i + 1) sys (by omega) (by omega)
theorem F10_asks_b5_ok {z m n : Nat} (hz : 10 ≤ z) {g : Nat → Nat → Int} {game : Nat → Int32} (hG : GM m n g game) {so ti : Nat} (hso : so < 64) (hti : ti < 64) {isF : Int32} {bV bB : Int64} {bS sh mat : Nat → Int64} : ∀ (rem w j : Nat) (sys : Nat → Int64), j + rem = m → rem < w → ∃ sys', F10_asks_b5 z w (i3 so) (i3 ti) (i3 (cf (fun k => ti.testBit k) j : Nat)) (i3 j) game (i3 n) (i3 m) isF bV bB bS sh mat sys = F10_asks_b106 z (i3 so) (i3 (cf (fun k => ti.testBit k) m : Nat)) game (i3 n) (i3 m) isF bV bB bS sh mat sys' ∧ ∀ a b, a < 8 → b < cf (fun k => so.testBit k) n + 1 → sys' (8 * a + b) = if cf (fun k => ti.testBit k) j ≤ a ∧ a < cf (fun k => ti.testBit k) m then i6 (if b = cf (fun k => so.testBit k) n then -1 else g (gt (fun k => ti.testBit k) m a) (gt (fun k => so.testBit k) n b)) else sys (8 * a + b) := by
  have hG' := hG
  obtain ⟨hm0, hm, hn0, hn, hg, hgm⟩ := hG'
  have hcn := cf_le (fun k => so.testBit k) n
  have hcm := cf_le (fun k => ti.testBit k) m
  intro rem
  induction rem with
  | zero =>
    intro w j sys hj hw
    obtain ⟨w, rfl⟩ : ∃ w', w = w' + 1 := ⟨w - 1, by omega⟩
    have e : j = m := by omega
    subst e
    refine ⟨sys, ?_, fun a b ha hb => by rw [if_neg (by omega)]⟩
    unfold F10_asks_b5
    rw [if_pos (by rw [i3_le (by omega) (by omega) (by omega) (by omega)]; omega)]
  | succ rem ih =>
    intro w j sys hj hw
    obtain ⟨w, rfl⟩ : ∃ w', w = w' + 1 := ⟨w - 1, by omega⟩
    have hcc : ((j : Nat) : Int) + 1 = ((j + 1 : Nat) : Int) := by omega
    have hcj := cf_le (fun k => ti.testBit k) j
    unfold F10_asks_b5
    rw [if_neg (by rw [i3_le (by omega) (by omega) (by omega) (by omega)]; omega), F10_has_ok hti (by omega)]
    simp only [Option.bind_some]
    by_cases hp : ti.testBit j = true
    · have e1 : cf (fun k => ti.testBit k) (j + 1) = cf (fun k => ti.testBit k) j + 1 := by
        show cf (fun k => ti.testBit k) j + (if ti.testBit j then 1 else 0) = _
        rw [if_pos hp]
      have hle : cf (fun k => ti.testBit k) (j + 1) ≤ cf (fun k => ti.testBit k) m := cf_mono (by omega)
      rw [if_pos hp, if_neg (by decide)]
      obtain ⟨sys1, es1, hs1⟩ := F10_asks_b29_ok (z := z) hG (ti := ti) hso (q := cf (fun k => ti.testBit k) j) (by omega) (show j < m by omega) (isF := isF) (bV := bV) (bB := bB) (bS := bS) (sh := sh) (mat := mat) (fun q0 q1 q2 q3 q4 q5 q6 q7 q8 q9 q10 q11 q12 q13 => F10_asks_b5 z w q0 q1 q2 q3 q4 q5 q6 q7 q8 q9 q10 q11 q12 q13) n z 0 sys (by omega) (by omega)
      have es1' : F10_asks_b29 z z (i3 so) (i3 ti) (i3 (cf (fun k => ti.testBit k) j : Nat)) (i3 j) 0 0 game (i3 n) (i3 m) isF bV bB bS sh mat sys (fun q0 q1 q2 q3 q4 q5 q6 q7 q8 q9 q10 q11 q12 q13 => F10_asks_b5 z w q0 q1 q2 q3 q4 q5 q6 q7 q8 q9 q10 q11 q12 q13) = _ := es1
      rw [es1']
      obtain ⟨sys', e, h⟩ := ih w (j + 1) sys1 (by omega) (by omega)
      rw [e1] at e
      refine ⟨sys', e, fun a b ha hb => ?_⟩
      have hc0 : cf (fun k => so.testBit k) 0 = 0 := rfl
      rw [h a b ha hb, hs1 a b ha (by omega), e1]
      by_cases h1 : cf (fun k => ti.testBit k) j + 1 ≤ a ∧ a < cf (fun k => ti.testBit k) m
      · rw [if_pos h1, if_pos (show cf (fun k => ti.testBit k) j ≤ a ∧ a < cf (fun k => ti.testBit k) m by omega)]
      · rw [if_neg h1]
        by_cases h2 : a = cf (fun k => ti.testBit k) j
        · subst h2
          rw [if_pos (show cf (fun k => ti.testBit k) j ≤ cf (fun k => ti.testBit k) j ∧ cf (fun k => ti.testBit k) j < cf (fun k => ti.testBit k) m by omega), gt_at (p := fun k => ti.testBit k) (show j < m by omega) hp]
          by_cases h3 : b = cf (fun k => so.testBit k) n
          · rw [if_pos ⟨rfl, h3⟩, if_pos h3]
          · rw [if_neg (fun q => h3 q.2), if_pos (by omega), if_neg h3]
        · rw [if_neg (fun q => h2 q.1), if_neg (fun q => h2 q.1), if_neg (by omega)]
    · have e1 : cf (fun k => ti.testBit k) (j + 1) = cf (fun k => ti.testBit k) j := by
        show cf (fun k => ti.testBit k) j + (if ti.testBit j then 1 else 0) = _
        rw [if_neg hp]; rfl
      unfold F10_asks_b100
      rw [if_neg hp]
      simp only [if_true]
      rw [i3_l1, i3_add, hcc, ← e1]
      exact ih w (j + 1) sys (by omega) (by omega)
theorem F10_asks_b109_ok {z n : Nat} {x1 rows cols : Int32} {game : Nat → Int32} {k : Nat} (hk : k < 7) {isF : Int32} {bV bB : Int64} {bS sh mat : Nat → Int64} : ∀ (rem w c : Nat) (sys : Nat → Int64), c + rem = k + 1 → rem < w → ∃ sys', F10_asks_b109 z w x1 (i3 k) (i3 c) game rows cols isF bV bB bS sh mat sys = F10_asks_b144 z x1 (i3 k) game rows cols isF bV bB bS sh mat sys' ∧ ∀ a b, a < 8 → b < 8 → sys' (8 * a + b) = if a = k ∧ c ≤ b ∧ b < k + 1 then i6 (if b < k then 1 else 0) else sys (8 * a + b) := by
  intro rem
  induction rem with
  | zero =>
    intro w c sys hc hw
    obtain ⟨w, rfl⟩ : ∃ w', w = w' + 1 := ⟨w - 1, by omega⟩
    refine ⟨sys, ?_, fun a b ha hb => by rw [if_neg (by omega)]⟩
    unfold F10_asks_b109
    rw [if_pos (by rw [i3_lt (by omega) (by omega) (by omega) (by omega)]; omega)]
  | succ rem ih =>
    intro w c sys hc hw
    obtain ⟨w, rfl⟩ : ∃ w', w = w' + 1 := ⟨w - 1, by omega⟩
    have hcc : ((c : Nat) : Int) + 1 = ((c + 1 : Nat) : Int) := by omega
    have key : ∀ x : Int, x = (if c < k then 1 else 0) → ∃ sys', F10_asks_b137 z x1 (i3 k) (i3 c) (i3 ((8 * k + c : Nat) : Int)) (i6 x) game rows cols isF bV bB bS sh mat sys (fun q0 q1 q2 q3 q4 q5 q6 q7 q8 q9 q10 q11 q12 => F10_asks_b109 z w q0 q1 q2 q3 q4 q5 q6 q7 q8 q9 q10 q11 q12) = F10_asks_b144 z x1 (i3 k) game rows cols isF bV bB bS sh mat sys' ∧ ∀ a b, a < 8 → b < 8 → sys' (8 * a + b) = if a = k ∧ c ≤ b ∧ b < k + 1 then i6 (if b < k then 1 else 0) else sys (8 * a + b) := fun x hx => by
      unfold F10_asks_b137
      simp (disch := omega) only [xg_in, i3_xnN]
      rw [i3_l1, i3_add, hcc]
      obtain ⟨sys', e, h⟩ := ih w (c + 1) (vp_updL sys (8 * k + c) (i6 x)) (by omega) (by omega)
      refine ⟨sys', e, fun a b ha hb => ?_⟩
      rw [h a b ha hb, vpL_at]
      by_cases h1 : a = k ∧ c + 1 ≤ b ∧ b < k + 1
      · rw [if_pos h1, if_pos (show a = k ∧ c ≤ b ∧ b < k + 1 by omega)]
      · rw [if_neg h1]
        by_cases h2 : a = k ∧ b = c
        · rw [if_pos (by omega), if_pos (by omega), hx, h2.2]
        · rw [if_neg (by omega), if_neg (by omega)]
    unfold F10_asks_b109
    rw [if_neg (by rw [i3_lt (by omega) (by omega) (by omega) (by omega)]; omega), i3_8]
    by_cases q : k ≤ c
    · rw [if_pos (by rw [i3_le (by omega) (by omega) (by omega) (by omega)]; omega)]
      exact key 0 (by rw [if_neg (by omega)])
    · rw [if_neg (by rw [i3_le (by omega) (by omega) (by omega) (by omega)]; omega)]
      exact key 1 (by rw [if_pos (by omega)])
theorem sy_bw {m n k : Nat} {g : Nat → Nat → Int} {game : Nat → Int32} (hG : GM m n g game) {ii jj : Nat → Nat} (hii : ∀ c, c < k → ii c < n) (hjj : ∀ c, c < k → jj c < m) : ∀ i q, i < k + 1 → q < k + 1 → - bw (k + 1) q ≤ sy k g ii jj i q ∧ sy k g ii jj i q ≤ bw (k + 1) q := by
  intro i q hi hq
  unfold sy bw
  by_cases h1 : i < k
  · rw [if_pos h1]
    by_cases h2 : q < k
    · have := hG.2.2.2.2.1 (jj q) (ii i) (hjj q h2) (hii i h1)
      rw [if_pos h2, if_pos (by omega)]
      exact this
    · rw [if_neg h2]; split <;> omega
  · rw [if_neg h1]
    split <;> split <;> omega
/-- the shares of a corner -/
theorem F10_asks_b184_ok {z m n k : Nat} (hz : 100 ≤ z) (hn : n < 7) {so : Nat} (hso : so < 64) (hk : k = cf (fun k => so.testBit k) n) {game : Nat → Int32} {cols : Int32} {W : Nat → Nat → Int} (hW : ∀ i q, i < k + 1 → q < k + 1 → - bw (k + 1) q ≤ W i q ∧ W i q ≤ bw (k + 1) q) {sys : Nat → Int64} (hS : ∀ a b, a < k + 1 → b < k + 1 → sys (8 * a + b) = i6 (W b a)) {D sg : Int} {isF : Int32} {bV bB : Int64} {bS : Nat → Int64} : ∀ (rem w i : Nat) (sh mat : Nat → Int64), i + rem = n → rem < w → ∃ sh' mat', F10_asks_b184 z w (i3 so) (i3 k) (i6 D) (i6 sg) (i3 (cf (fun k => so.testBit k) i : Nat)) (i3 i) game (i3 n) cols isF bV bB bS sh mat sys = F10_asks_b238 z (i3 k) (i6 D) (i6 sg) game (i3 n) cols isF bV bB bS sh' mat' sys ∧ ∀ a, a < n → sh' a = if i ≤ a then i6 (if so.testBit a then sg * dt (k + 1) (st W (cf (fun k => so.testBit k) a) (ek k)) else 0) else sh a := by
  have hcn := cf_le (fun k => so.testBit k) n
  intro rem
  induction rem with
  | zero =>
    intro w i sh mat hi hw
    obtain ⟨w, rfl⟩ : ∃ w', w = w' + 1 := ⟨w - 1, by omega⟩
    refine ⟨sh, mat, ?_, fun a ha => by rw [if_neg (by omega)]⟩
    unfold F10_asks_b184
    rw [if_pos (by rw [i3_le (by omega) (by omega) (by omega) (by omega)]; omega)]
  | succ rem ih =>
    intro w i sh mat hi hw
    obtain ⟨w, rfl⟩ : ∃ w', w = w' + 1 := ⟨w - 1, by omega⟩
    have hcc : ((i : Nat) : Int) + 1 = ((i + 1 : Nat) : Int) := by omega
    have hci := cf_le (fun k => so.testBit k) i
    unfold F10_asks_b184 F10_asks_b232
    rw [if_neg (by rw [i3_le (by omega) (by omega) (by omega) (by omega)]; omega), F10_has_ok hso (by omega)]
    simp (disch := omega) only [xg_in, i3_xnN, Option.bind_some]
    by_cases hp : so.testBit i = true
    · have e1 : cf (fun k => so.testBit k) (i + 1) = cf (fun k => so.testBit k) i + 1 := by
        show cf (fun k => so.testBit k) i + (if so.testBit i then 1 else 0) = _
        rw [if_pos hp]
      have hle : cf (fun k => so.testBit k) (i + 1) ≤ cf (fun k => so.testBit k) n := cf_mono (by omega)
      rw [if_pos hp, if_neg (by decide)]
      obtain ⟨mat1, em⟩ := (F10_with_ok hz (N := k + 1) (by omega) (by omega) hW hS mat).2 (cf (fun k => so.testBit k) i) (by omega)
      have e2 : i3 (k : Int) + 1 = i3 ((k + 1 : Nat) : Int) := by rw [i3_l1, i3_add]; rfl
      rw [e2, em]
      simp only [Option.bind_some]
      rw [i6_mul, i3_l1, i3_add, i3_add, hcc]
      obtain ⟨sh', mat', e, h⟩ := ih w (i + 1) (vp_updL (vp_updL sh i 0) i (i6 (sg * dt (k + 1) (st W (cf (fun k => so.testBit k) i) (ek (k + 1 - 1)))))) mat1 (by omega) (by omega)
      rw [e1] at e
      refine ⟨sh', mat', e, fun a ha => ?_⟩
      rw [h a ha, vpL_at, vpL_at]
      by_cases h1 : i + 1 ≤ a
      · rw [if_pos h1, if_pos (show i ≤ a by omega)]
      · rw [if_neg h1]
        by_cases h2 : a = i
        · rw [if_pos h2, if_pos (by omega), h2, if_pos hp]; rfl
        · rw [if_neg h2, if_neg h2, if_neg (by omega)]
    · have e1 : cf (fun k => so.testBit k) (i + 1) = cf (fun k => so.testBit k) i := by
        show cf (fun k => so.testBit k) i + (if so.testBit i then 1 else 0) = _
        rw [if_neg hp]; rfl
      rw [if_neg hp]
      simp only [if_true]
      rw [i3_l1, i3_add, hcc, ← e1]
      obtain ⟨sh', mat', e, h⟩ := ih w (i + 1) (vp_updL sh i 0) mat (by omega) (by omega)
      refine ⟨sh', mat', e, fun a ha => ?_⟩
      rw [h a ha, vpL_at]
      by_cases h1 : i + 1 ≤ a
      · rw [if_pos h1, if_pos (show i ≤ a by omega)]
      · rw [if_neg h1]
        by_cases h2 : a = i
        · rw [if_pos h2, if_pos (by omega), h2, if_neg hp]; rfl
        · rw [if_neg h2, if_neg (by omega)]
theorem F10_asks_b297_ok {z n : Nat} (hn : n < 7) {game : Nat → Int32} {cols isF : Int32} {bV bB : Int64} {sh mat sys : Nat → Int64} : ∀ (rem w i : Nat) (bS : Nat → Int64), i + rem = n → rem < w → ∃ bS', F10_asks_b297 z w (i3 i) game (i3 n) cols isF bV bB bS sh mat sys = some (isF, bV, bB, bS', sh, mat, sys) ∧ ∀ a, a < n → bS' a = if i ≤ a then sh a else bS a := by
  intro rem
  induction rem with
  | zero =>
    intro w i bS hi hw
    obtain ⟨w, rfl⟩ : ∃ w', w = w' + 1 := ⟨w - 1, by omega⟩
    refine ⟨bS, ?_, fun a ha => by rw [if_neg (by omega)]⟩
    unfold F10_asks_b297
    rw [if_pos (by rw [i3_le (by omega) (by omega) (by omega) (by omega)]; omega)]
  | succ rem ih =>
    intro w i bS hi hw
    obtain ⟨w, rfl⟩ : ∃ w', w = w' + 1 := ⟨w - 1, by omega⟩
    unfold F10_asks_b297
    rw [if_neg (by rw [i3_le (by omega) (by omega) (by omega) (by omega)]; omega)]
    simp (disch := omega) only [xg_in, i3_xnN]
    rw [i3_l1, i3_add]
    obtain ⟨bS', e, h⟩ := ih w (i + 1) (vp_updL bS i (sh i)) (by omega) (by omega)
    refine ⟨bS', e, fun a ha => ?_⟩
    rw [h a ha, vpL_at]
    by_cases h1 : i + 1 ≤ a
    · rw [if_pos h1, if_pos (by omega)]
    · rw [if_neg h1]
      by_cases h2 : a = i
      · rw [if_pos h2, if_pos (by omega), h2]
      · rw [if_neg h2, if_neg (by omega)]
