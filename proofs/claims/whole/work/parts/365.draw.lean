/-! ===== calls: draw, match ===== -/
theorem hasPlan_ok {K : Nat} {fo pN : Nat → Nat} {pI : Nat → Nat → Nat} {pW : Nat → Nat → Int} {pList pWei : Nat → Nat → Int32} {pMany pAll told : Nat → Int32} (hP : PLr K fo pN pI pW pList pWei pMany pAll told) (x1 : Int32) : (∃ s : Nat, s < 2 ∧ x1 = i3 (s : Int) ∧ 1 ≤ pN s ∧ F9_hasPlan x1 pMany = some 1 ∧ F10_hasPlan x1 told = some 1) ∨ (F9_hasPlan x1 pMany = some 0 ∧ F10_hasPlan x1 told = some 0) := by
  obtain ⟨a, rfl, h1, h2⟩ := i3_ex x1
  unfold F9_hasPlan F10_hasPlan
  rw [isSide9 a h1 h2, isSide10 a h1 h2]
  simp only [Option.bind_some]
  by_cases e : a = 0 ∨ a = 1
  · obtain ⟨s, hs, ea⟩ : ∃ s : Nat, s < 2 ∧ a = s := ⟨a.toNat, by omega, by omega⟩
    subst ea
    obtain ⟨p1, p2, -⟩ := hP s hs
    rw [if_pos e, if_neg n10, if_neg n10, F10_planned_ok hP hs]
    simp (disch := omega) only [Option.bind_some, xg_in, i3_xnN]
    rw [p2]
    by_cases q : 1 ≤ pN s
    · have d : ¬ i3 (pN s : Int) ≤ 0 := by rw [i3_l0, i3_le (by omega) (by omega) (by omega) (by omega)]; omega
      rw [if_neg d]
      exact Or.inl ⟨s, hs, rfl, q, rfl, rfl⟩
    · have d : i3 (pN s : Int) ≤ 0 := by rw [i3_l0, i3_le (by omega) (by omega) (by omega) (by omega)]; omega
      rw [if_pos d]
      exact Or.inr ⟨rfl, rfl⟩
  · rw [if_neg e]
    exact Or.inr ⟨rfl, rfl⟩
/-- what a number of the chance gives: 24 bits -/
theorem shr8 (x : Int32) : ∃ N : Nat, N < 16777216 ∧ (x.toUInt32 >>> ((8 : Int32).toUInt32 &&& Int32.toUInt32 31)).toInt32 = i3 (N : Int) := by
  have hx : x.toBitVec.toNat < 4294967296 := x.toBitVec.isLt
  refine ⟨x.toBitVec.toNat / 256, by omega, ?_⟩
  apply Int32.toBitVec.inj
  apply BitVec.eq_of_toNat_eq
  have e1 : (x.toUInt32 >>> ((8 : Int32).toUInt32 &&& Int32.toUInt32 31)).toInt32.toBitVec = x.toBitVec >>> 8 := rfl
  have e2 : (i3 ((x.toBitVec.toNat / 256 : Nat) : Int)).toBitVec = BitVec.ofNat 32 (x.toBitVec.toNat / 256) := by
    show BitVec.ofInt 32 _ = _
    rw [BitVec.ofInt_natCast]
  rw [e1, e2, BitVec.toNat_ushiftRight, BitVec.toNat_ofNat, Nat.shiftRight_eq_div_pow]
  omega
theorem i3_rem {N : Nat} {A : Int} (hN : N < 16777216) (h1 : 1 ≤ A) (h2 : A < 100000) : ∃ p : Int, 0 ≤ p ∧ p < A ∧ i3 (N : Int) - i3 (N : Int) / i3 A * i3 A = i3 p := by
  refine ⟨(N : Int) % A, Int.emod_nonneg _ (by omega), Int.emod_lt_of_pos _ (by omega), ?_⟩
  rw [i3_div (by omega) (by omega) (by omega) (by omega), i3_mul, i3_sub, Int.tdiv_eq_ediv_of_nonneg (by omega)]
  congr 1
  have := Int.emod_add_mul_ediv (N : Int) A
  have e : A * ((N : Int) / A) = (N : Int) / A * A := Int.mul_comm _ _
  omega
theorem atPart_same {z w0 w1 z1 K : Nat} (hz : 200 ≤ z1) {W : Nat → Int} {t : Int} {fo pN : Nat → Nat} {pI : Nat → Nat → Nat} {pW : Nat → Nat → Int} {pList pWei : Nat → Nat → Int32} {pMany pAll told many eights gains : Nat → Int32} (hM : SM K W t fo told many eights gains) (hP : PLr K fo pN pI pW pList pWei pMany pAll told) {s : Nat} (hs : s < 2) (state : Int32) : ∀ (rem w w' m : Nat) (p : Int), m + rem + 1 = pN s → rem < w → rem < w' → 0 ≤ p → p < sm (pN s) (pW s) - sm m (pW s) → ∃ k, k < pN s ∧ F3_atPart_b4 z w (i3 p) (i3 m) (pList s) (pWei s) (i3 (pN s : Int)) = some (i3 (pI s k : Nat)) ∧ F10_byChance_b32 z1 w' (i3 s) (i3 p) (i3 m) told many eights state = some (i3 (pI s k : Nat), state) := by
  have h8 := (hP s hs).1
  have wb := wsum_bd hP hs
  have hn := wb (pN s) (Nat.le_refl _)
  intro rem
  induction rem with
  | zero =>
    intro w w' m p hm hw hw' hp0 hp
    obtain ⟨w, rfl⟩ : ∃ w', w = w' + 1 := ⟨w - 1, by omega⟩
    obtain ⟨w', rfl⟩ : ∃ w2, w' = w2 + 1 := ⟨w' - 1, by omega⟩
    obtain ⟨d1, d2, d3, d4, d5, d6, d7⟩ := (hP s hs).2.2.2.2.1 m (by omega)
    have hm0 := wb m (by omega)
    have hp2 : p < pW s m := by
      have e : sm (pN s) (pW s) = sm m (pW s) + pW s m := by rw [show pN s = m + 1 by omega]; rfl
      omega
    refine ⟨m, by omega, ?_, ?_⟩
    · unfold F3_atPart_b4
      rw [if_pos (by rw [i3_l1, i3_sub, i3_le (by omega) (by omega) (by omega) (by omega)]; omega)]
      unfold F3_atPart_b39
      simp (disch := omega) only [xg_in, i3_xnN]
      rw [d4]
    · unfold F10_byChance_b32
      rw [F10_weightAt_ok hP hs (by omega)]
      simp only [Option.bind_some]
      rw [if_pos (by rw [i3_lt (by omega) (by omega) (by omega) (by omega)]; exact hp2)]
      unfold F10_byChance_b57
      rw [F10_planAt_ok hz hM hP hs (by omega)]
      rfl
  | succ rem ih =>
    intro w w' m p hm hw hw' hp0 hp
    obtain ⟨w, rfl⟩ : ∃ w', w = w' + 1 := ⟨w - 1, by omega⟩
    obtain ⟨w', rfl⟩ : ∃ w2, w' = w2 + 1 := ⟨w' - 1, by omega⟩
    obtain ⟨d1, d2, d3, d4, d5, d6, d7⟩ := (hP s hs).2.2.2.2.1 m (by omega)
    have hm0 := wb m (by omega)
    unfold F3_atPart_b4 F10_byChance_b32
    rw [if_neg (by rw [i3_l1, i3_sub, i3_le (by omega) (by omega) (by omega) (by omega)]; omega), F10_weightAt_ok hP hs (by omega)]
    simp (disch := omega) only [xg_in, i3_xnN, Option.bind_some]
    rw [d5]
    by_cases q : p < pW s m
    · have d : i3 p < i3 (pW s m) := by rw [i3_lt (by omega) (by omega) (by omega) (by omega)]; exact q
      refine ⟨m, by omega, ?_, ?_⟩
      · rw [if_pos d]
        unfold F3_atPart_b39
        simp (disch := omega) only [xg_in, i3_xnN]
        rw [d4]
      · rw [if_pos d]
        unfold F10_byChance_b57
        rw [F10_planAt_ok hz hM hP hs (by omega)]
        rfl
    · have d : ¬ i3 p < i3 (pW s m) := by rw [i3_lt (by omega) (by omega) (by omega) (by omega)]; exact q
      rw [if_neg d, if_neg d, i3_sub, show i3 (m : Int) + 1 = i3 ((m + 1 : Nat) : Int) from by rw [i3_l1, i3_add]; rfl]
      exact ih w w' (m + 1) (p - pW s m) (by omega) (by omega) (by omega) (by omega) (by
        show p - pW s m < sm (pN s) (pW s) - (sm m (pW s) + pW s m)
        omega)
theorem xnz_i3 {α : Type} {a : Int} (k : Option α) (h1 : -2147483648 ≤ a) (h2 : a < 2147483648) (h : a ≠ 0) : xg (xnz (i3 a)) k = k := by
  have : xnz (i3 a) = true := by
    unfold xnz
    rw [Bool.not_eq_true', decide_eq_false_iff_not, i3_l0, i3_eq h1 h2 (by omega) (by omega)]
    exact h
  rw [this]; rfl
theorem byChance_same {z z1 K : Nat} (hz : 20 ≤ z) (hz1 : 200 ≤ z1) {W : Nat → Int} {t : Int} {fo pN : Nat → Nat} {pI : Nat → Nat → Nat} {pW : Nat → Nat → Int} {pList pWei : Nat → Nat → Int32} {pMany pAll told many eights gains : Nat → Int32} (hM : SM K W t fo told many eights gains) (hP : PLr K fo pN pI pW pList pWei pMany pAll told) {s : Nat} (hs : s < 2) (h1 : 1 ≤ pN s) (state : Int32) : ∃ k state', k < pN s ∧ F9_byChance z (i3 s) state pList pWei pMany pAll = some (i3 (pI s k : Nat), state') ∧ F10_byChance z1 (i3 s) told many eights state = some (i3 (pI s k : Nat), state') := by
  obtain ⟨p1, p2, p3, p4, p5, p6⟩ := hP s hs
  have wb := wsum_bd hP hs (pN s) (Nat.le_refl _)
  obtain ⟨N, hN, eN⟩ := shr8 (state * 1664525 + 1013904223)
  obtain ⟨p, q1, q2, q3⟩ := i3_rem (A := sm (pN s) (pW s)) hN (by omega) (by omega)
  obtain ⟨k, hk, e9, e10⟩ := atPart_same (z := z) (z1 := z1) (w0 := 0) (w1 := 0) hz1 hM hP hs (state * 1664525 + 1013904223) (pN s - 1) z z1 0 p (by omega) (by omega) (by omega) q1 (by show p < sm (pN s) (pW s) - 0; omega)
  refine ⟨k, state * 1664525 + 1013904223, hk, ?_, ?_⟩
  · unfold F9_byChance
    simp (disch := omega) only [xg_in, i3_xnN]
    rw [p4, if_neg (by rw [i3_l0, i3_le (by omega) (by omega) (by omega) (by omega)]; omega), xnz_i3 _ (by omega) (by omega) (by omega), eN, q3]
    unfold F9_byChance_b50 F3_atPart
    have eb : Nat.blt s 2 = true := by rcases two_cases hs with rfl | rfl <;> rfl
    rw [eb, p2]
    have e9' : F3_atPart_b4 z z (i3 p) 0 (pList s) (pWei s) (i3 (pN s : Int)) = some (i3 (pI s k : Nat)) := e9
    rw [e9']
    rfl
  · unfold F10_byChance
    rw [F10_weights_ok (by omega) hP hs]
    simp only [Option.bind_some]
    rw [xnz_i3 _ (by omega) (by omega) (by omega), Int32.mul_comm 1664525 state, eN, q3]
    exact e10
theorem mul_bd {a b A B : Int} (h1 : 0 ≤ a) (h2 : a ≤ A) (h3 : 0 ≤ b) (h4 : b ≤ B) : 0 ≤ a * b ∧ a * b ≤ A * B := ⟨Int.mul_nonneg h1 h3, Int.mul_le_mul h2 h4 h3 (by omega)⟩
/-- what is owed to an entry -/
def owd (pW : Nat → Int) (tu : Nat) (dr : Nat → Nat) (A : Int) (k : Nat) : Int := pW k * (tu : Int) - (dr k : Int) * A
theorem byTurns_same {z z1 K T : Nat} (hT512 : T < 512) (hz : 20 ≤ z) (hz1 : 200 ≤ z1) {W : Nat → Int} {t : Int} {fo pN : Nat → Nat} {pI : Nat → Nat → Nat} {pW : Nat → Nat → Int} {pList pWei : Nat → Nat → Int32} {pMany pAll told many eights gains : Nat → Int32} (hM : SM K W t fo told many eights gains) (hP : PLr K fo pN pI pW pList pWei pMany pAll told) {tu : Nat → Nat} {dr : Nat → Nat → Nat} {pTurns : Nat → Int32} {pDrawn : Nat → Nat → Int32} {turns drawn : Nat → Int32} (hT : TNr T tu dr pTurns pDrawn turns drawn) {s : Nat} (hs : s < 2) (h1 : 1 ≤ pN s) : ∃ k d pt2 turns' d2 tu' dr', k < pN s ∧ F3_byTurns z (pList s) (pWei s) (pDrawn s) (pMany s) (pAll s) (pTurns s) = some (i3 (pI s k : Nat), d, pt2) ∧ F10_byTurns z1 (i3 s) told many eights turns drawn = some (i3 (pI s k : Nat), turns', d2) ∧ TNr (T + 1) tu' dr' (va_up pTurns s pt2) (va_up pDrawn s d) turns' d2 := by
  obtain ⟨p1, p2, p3, p4, p5, p6⟩ := hP s hs
  obtain ⟨t1, t2, t3, t4⟩ := hT s hs
  have wb := wsum_bd hP hs (pN s) (Nat.le_refl _)
  have ob : ∀ k, k < pN s → -1000000 ≤ owd (pW s) (tu s + 1) (dr s) (sm (pN s) (pW s)) k ∧ owd (pW s) (tu s + 1) (dr s) (sm (pN s) (pW s)) k ≤ 1000000 := by
    intro k hk
    obtain ⟨d1, d2, d3, -⟩ := p5 k hk
    have a1 := mul_bd (a := pW s k) (b := ((tu s + 1 : Nat) : Int)) (A := 99) (B := 513) (by omega) d3 (by omega) (by omega)
    have dk := (t4 k (by omega)).1
    have a2 := mul_bd (a := (dr s k : Int)) (b := sm (pN s) (pW s)) (A := 512) (B := 800) (by omega) (by omega) (by omega) (by omega)
    unfold owd
    omega
  have od9 : ∀ k, k < pN s → F3_owed (i3 k) (pWei s) (pDrawn s) (pAll s) (i3 ((tu s + 1 : Nat) : Int)) = some (i3 (owd (pW s) (tu s + 1) (dr s) (sm (pN s) (pW s)) k)) := by
    intro k hk
    obtain ⟨d1, d2, d3, d4, d5, -⟩ := p5 k hk
    unfold F3_owed
    simp (disch := omega) only [xg_in, i3_xnN]
    rw [d5, (t4 k (by omega)).2.1, p4, i3_mul, i3_mul, i3_sub]
    rfl
  have od10 : ∀ k, k < pN s → F10_due z1 (i3 s) (i3 k) told (upd turns s (i3 ((tu s + 1 : Nat) : Int))) drawn = some (i6 (owd (pW s) (tu s + 1) (dr s) (sm (pN s) (pW s)) k)) := by
    intro k hk
    obtain ⟨d1, d2, d3, d4, d5, -⟩ := p5 k hk
    have dk := (t4 k (by omega)).1
    unfold F10_due
    rw [F10_weightAt_ok hP hs hk, i3_8, F10_weights_ok (by omega) hP hs]
    simp (disch := omega) only [xg_in, i3_xnN, Option.bind_some]
    rw [upd_same, (t4 k (by omega)).2.2, i3_toI6 (by omega) (by omega), i3_toI6 (by omega) (by omega), i3_toI6 (by omega) (by omega), i3_toI6 (by omega) (by omega), i6_mul, i6_mul, i6_sub]
    rfl
  have loop : ∀ (rem w w' m b : Nat), m + rem = pN s → b < pN s → rem < w → rem < w' → ∃ k, k < pN s ∧ F3_byTurns_b14 z w (i3 b) (i3 m) (pList s) (pWei s) (pDrawn s) (i3 (pN s : Int)) (pAll s) (i3 ((tu s + 1 : Nat) : Int)) = F3_byTurns_b43 z (i3 k) (pList s) (pWei s) (pDrawn s) (i3 (pN s : Int)) (pAll s) (i3 ((tu s + 1 : Nat) : Int)) ∧ F10_byTurns_b14 z1 w' (i3 s) (i3 b) (i3 m) told many eights (upd turns s (i3 ((tu s + 1 : Nat) : Int))) drawn = F10_byTurns_b51 z1 (i3 s) (i3 k) told many eights (upd turns s (i3 ((tu s + 1 : Nat) : Int))) drawn := by
    intro rem
    induction rem with
    | zero =>
      intro w w' m b hm hb hw hw'
      obtain ⟨w, rfl⟩ : ∃ w', w = w' + 1 := ⟨w - 1, by omega⟩
      obtain ⟨w', rfl⟩ : ∃ w2, w' = w2 + 1 := ⟨w' - 1, by omega⟩
      refine ⟨b, hb, ?_, ?_⟩
      · unfold F3_byTurns_b14
        rw [if_pos (by rw [i3_le (by omega) (by omega) (by omega) (by omega)]; omega)]
      · unfold F10_byTurns_b14
        rw [F10_planned_ok hP hs]
        simp only [Option.bind_some]
        rw [if_pos (by rw [i3_le (by omega) (by omega) (by omega) (by omega)]; omega)]
    | succ rem ih =>
      intro w w' m b hm hb hw hw'
      obtain ⟨w, rfl⟩ : ∃ w', w = w' + 1 := ⟨w - 1, by omega⟩
      obtain ⟨w', rfl⟩ : ∃ w2, w' = w2 + 1 := ⟨w' - 1, by omega⟩
      have d : ¬ i3 (pN s : Int) ≤ i3 (m : Int) := by rw [i3_le (by omega) (by omega) (by omega) (by omega)]; omega
      have bm := ob m (by omega)
      have bb := ob b hb
      unfold F3_byTurns_b14 F10_byTurns_b14
      rw [F10_planned_ok hP hs, od9 m (by omega), od9 b hb, od10 m (by omega), od10 b hb]
      simp only [Option.bind_some]
      rw [if_neg d, if_neg d]
      unfold F3_byTurns_b37 F10_byTurns_b44
      rw [show i3 (m : Int) + 1 = i3 ((m + 1 : Nat) : Int) from by rw [i3_l1, i3_add]; rfl]
      rcases Int.lt_trichotomy (owd (pW s) (tu s + 1) (dr s) (sm (pN s) (pW s)) m) (owd (pW s) (tu s + 1) (dr s) (sm (pN s) (pW s)) b) with q | q | q
      · rw [if_pos (by rw [i3_le (by omega) (by omega) (by omega) (by omega)]; omega), cmp_lt (by omega) (by omega) (by omega) (by omega) q, if_pos (by decide)]
        exact ih w w' (m + 1) b (by omega) hb (by omega) (by omega)
      · rw [if_pos (by rw [i3_le (by omega) (by omega) (by omega) (by omega)]; omega), q, cmp_eq, if_pos (by decide)]
        exact ih w w' (m + 1) b (by omega) hb (by omega) (by omega)
      · rw [if_neg (by rw [i3_le (by omega) (by omega) (by omega) (by omega)]; omega), cmp_gt (by omega) (by omega) (by omega) (by omega) q, if_neg (by decide)]
        exact ih w w' (m + 1) m (by omega) (by omega) (by omega) (by omega)
  obtain ⟨k, hk, e9, e10⟩ := loop (pN s - 1) z z1 1 0 (by omega) (by omega) (by omega) (by omega)
  obtain ⟨d1, d2, d3, d4, d5, -⟩ := p5 k hk
  obtain ⟨u1, u2, u3⟩ := t4 k (by omega)
  have et : i3 (tu s : Int) + 1 = i3 ((tu s + 1 : Nat) : Int) := by rw [i3_l1, i3_add]; rfl
  have ed : i3 (dr s k : Int) + 1 = i3 ((dr s k + 1 : Nat) : Int) := by rw [i3_l1, i3_add]; rfl
  refine ⟨k, upd (pDrawn s) k (i3 ((dr s k + 1 : Nat) : Int)), i3 ((tu s + 1 : Nat) : Int), upd turns s (i3 ((tu s + 1 : Nat) : Int)), upd drawn (8 * s + k) (i3 ((dr s k + 1 : Nat) : Int)), va_up tu s (tu s + 1), va_up dr s (fun j => if j = k then dr s k + 1 else dr s j), hk, ?_, ?_, ?_⟩
  · unfold F3_byTurns
    rw [t2, et, p2]
    refine Eq.trans e9 ?_
    unfold F3_byTurns_b43
    simp (disch := omega) only [xg_in, i3_xnN]
    rw [d4, u2, ed]
  · unfold F10_byTurns
    simp (disch := omega) only [xg_in, i3_xnN]
    rw [t3, et]
    refine Eq.trans e10 ?_
    unfold F10_byTurns_b51
    rw [i3_8, F10_planAt_ok hz1 hM hP hs hk]
    simp (disch := omega) only [xg_in, i3_xnN, Option.bind_some]
    rw [u3, ed]
  · intro s' hs'
    by_cases e : s' = s
    · subst e
      rw [va_up_self, va_up_self, va_up_self, va_up_self, upd_same]
      refine ⟨by omega, rfl, rfl, fun j hj => ?_⟩
      obtain ⟨v1, v2, v3⟩ := t4 j hj
      by_cases ej : j = k
      · subst ej
        simp only [if_true]
        exact ⟨by omega, upd_same _ _ _, upd_same _ _ _⟩
      · simp only [if_neg ej]
        exact ⟨by omega, (upd_diff _ _ ej).trans v2, (upd_diff _ _ (by omega)).trans v3⟩
    · rw [va_up_ne _ _ e, va_up_ne _ _ e, va_up_ne _ _ e, va_up_ne _ _ e, upd_diff _ _ e]
      obtain ⟨c1, c2, c3, c4⟩ := hT s' hs'
      refine ⟨by omega, c2, c3, fun j hj => ?_⟩
      obtain ⟨v1, v2, v3⟩ := c4 j hj
      exact ⟨by omega, v2, (upd_diff _ _ (by omega)).trans v3⟩
theorem call_draw {z K T : Nat} (hT512 : T < 512) (hz : 1000 ≤ z) {W : Nat → Int} {t : Int} {fo pN : Nat → Nat} {pI : Nat → Nat → Nat} {pW : Nat → Nat → Int} {pList pWei : Nat → Nat → Int32} {pMany pAll told many eights gains : Nat → Int32} (hM : SM K W t fo told many eights gains) (hP : PLr K fo pN pI pW pList pWei pMany pAll told) {tu : Nat → Nat} {dr : Nat → Nat → Nat} {pTurns : Nat → Int32} {pDrawn : Nat → Nat → Int32} {turns drawn : Nat → Int32} (hT : TNr T tu dr pTurns pDrawn turns drawn) (x1 x2 thrown state : Int32) : ∃ (v state' : Int32) (pDrawn' : Nat → Nat → Int32) (pTurns' turns' drawn' : Nat → Int32) (tu' : Nat → Nat) (dr' : Nat → Nat → Nat), F9_draw z x1 x2 state pList pWei pDrawn pMany pAll pTurns = some (v, state', pDrawn', pTurns') ∧ F10_draw z x1 x2 thrown told many eights turns drawn state = some (v, 0, turns', drawn', state') ∧ TNr (T + 1) tu' dr' pTurns' pDrawn' turns' drawn' := by
  unfold F9_draw F10_draw
  rcases hasPlan_ok hP x1 with ⟨s, hs, rfl, h1, e9, e10⟩ | ⟨e9, e10⟩
  · rw [e9, e10]
    simp only [Option.bind_some]
    rw [if_neg n10, if_neg n10]
    by_cases q : x2 = 0
    · obtain ⟨k, st, hk, f9, f10⟩ := byChance_same (z := z) (z1 := z) (by omega) (by omega) hM hP hs h1 state
      rw [if_pos q, if_pos q, f9, f10]
      exact ⟨_, _, _, _, _, _, tu, dr, rfl, rfl, TNr_mono (Nat.le_succ T) hT⟩
    · obtain ⟨k, d, pt2, turns', d2, tu', dr', hk, f9, f10, hT'⟩ := byTurns_same (z := z) (z1 := z) hT512 (by omega) (by omega) hM hP hT hs h1
      rw [if_neg q, if_neg q, f10]
      simp (disch := omega) only [xg_in, i3_xnN]
      rw [f9]
      exact ⟨_, _, _, _, _, _, tu', dr', rfl, rfl, hT'⟩
  · rw [e9, e10]
    exact ⟨_, _, _, _, _, _, tu, dr, rfl, rfl, TNr_mono (Nat.le_succ T) hT⟩
theorem call_match {z K : Nat} (hz : 1000 ≤ z) {W : Nat → Int} {t : Int} {fo : Nat → Nat} {fields ties : Int32} {worth forces many : Nat → Int32} {codes : Nat → Nat → Int32} (hX : SX K W t fo fields ties worth forces many codes) {told manym eights gains : Nat → Int32} (hM : SM K W t fo told manym eights gains) {pN : Nat → Nat} {pI : Nat → Nat → Nat} {pW : Nat → Nat → Int} {pList pWei : Nat → Nat → Int32} {pMany pAll : Nat → Int32} (hP : PLr K fo pN pI pW pList pWei pMany pAll told) (x1 thrown state : Int32) : ∃ v state', F9_match z x1 state fields ties worth codes pList pWei pMany pAll = some (v, state') ∧ F10_match z x1 thrown told manym eights gains state = some (v, 0, state') := by
  obtain ⟨a, rfl, h1, h2⟩ := i3_ex x1
  have hwi := within10' h1 h2 (l := 1) (h := 200) (by omega) (by omega) (by omega) (by omega) (L := 1) (H := 200) rfl rfl
  unfold F9_match F10_match
  by_cases q : 1 ≤ a ∧ a ≤ 200
  · obtain ⟨n, rfl⟩ : ∃ n : Nat, a = n := ⟨a.toNat, by omega⟩
    rw [hwi.1 q, if_neg (show ¬ i3 (n : Int) < 1 by rw [i3_l1, i3_lt (by omega) (by omega) (by omega) (by omega)]; omega), if_neg (show ¬ (200 : Int32) < i3 (n : Int) by rw [i3_l200, i3_lt (by omega) (by omega) (by omega) (by omega)]; omega)]
    simp only [Option.bind_some]
    rw [if_neg n10]
    rcases hasPlan_ok hP 0 with ⟨s, hs, es, g0, e9, e10⟩ | ⟨e9, e10⟩
    · obtain rfl : s = 0 := by
        rcases two_cases hs with rfl | rfl
        · rfl
        · exact absurd es.symm n10
      rw [e9, e10]
      simp only [Option.bind_some]
      rw [if_neg n10, if_neg n10]
      rcases hasPlan_ok hP 1 with ⟨s, hs, es, g1, e9, e10⟩ | ⟨e9, e10⟩
      · obtain rfl : s = 1 := by
          rcases two_cases hs with rfl | rfl
          · exact absurd es n10
          · rfl
        rw [e9, e10]
        simp only [Option.bind_some]
        rw [if_neg n10, if_neg n10]
        have loop : ∀ (rem w m : Nat) (g st : Int32), m + rem = n → rem < w → ∃ v st', F9_match_b36 z w (i3 n) g (i3 m) st fields ties worth codes pList pWei pMany pAll = some (v, st') ∧ F10_match_b40 z w (i3 n) g (i3 m) 0 told manym eights gains st = some (v, 0, st') := by
          intro rem
          induction rem with
          | zero =>
            intro w m g st hm hw
            obtain ⟨w, rfl⟩ : ∃ w', w = w' + 1 := ⟨w - 1, by omega⟩
            have d : i3 (n : Int) ≤ i3 (m : Int) := by rw [i3_le (by omega) (by omega) (by omega) (by omega)]; omega
            unfold F9_match_b36 F10_match_b40
            rw [if_pos d, if_pos d]
            exact ⟨_, _, rfl, rfl⟩
          | succ rem ih =>
            intro w m g st hm hw
            obtain ⟨w, rfl⟩ : ∃ w', w = w' + 1 := ⟨w - 1, by omega⟩
            have d : ¬ i3 (n : Int) ≤ i3 (m : Int) := by rw [i3_le (by omega) (by omega) (by omega) (by omega)]; omega
            obtain ⟨k, st1, hk, f9, f10⟩ := byChance_same (z := z) (z1 := z) (by omega) (by omega) hM hP (s := 0) (by omega) g0 st
            obtain ⟨k2, st2, hk2, h9, h10⟩ := byChance_same (z := z) (z1 := z) (by omega) (by omega) hM hP (s := 1) (by omega) g1 st1
            have i1 := ((hP 0 (by omega)).2.2.2.2.1 k hk).1
            have i2 := ((hP 1 (by omega)).2.2.2.2.1 k2 hk2).1
            have n0 := ns_bd hX.1 (hX.2.1 0 (by omega))
            have n1 := ns_bd hX.1 (hX.2.1 1 (by omega))
            have f9' : F9_byChance z 0 st pList pWei pMany pAll = _ := f9
            have f10' : F10_byChance z 0 told manym eights st = _ := f10
            have h9' : F9_byChance z 1 st1 pList pWei pMany pAll = _ := h9
            have h10' : F10_byChance z 1 told manym eights st1 = _ := h10
            have eg : F4_gainFor z 0 (i3 (pI 0 k : Nat)) (i3 (pI 1 k2 : Nat)) fields ties worth codes = _ := F4_gainFor_ok hX (by omega) (s := 0) (by omega) i1 i2
            unfold F9_match_b36 F10_match_b40
            rw [if_neg d, if_neg d, f9', f10']
            simp only [Option.bind_some]
            rw [h9', h10']
            simp only [Option.bind_some]
            rw [eg, show (128 : Int32) * i3 (pI 0 k : Nat) + i3 (pI 1 k2 : Nat) = i3 ((128 * pI 0 k + pI 1 k2 : Nat) : Int) from by rw [i3_l128, i3_mul, i3_add]; congr 1]
            simp (disch := omega) only [xg_in, i3_xnN, Option.bind_some]
            rw [hM.2.2.2.2.2.2.2.2 _ _ i1 i2, show i3 (m : Int) + 1 = i3 ((m + 1 : Nat) : Int) from by rw [i3_l1, i3_add]; rfl]
            exact ih w (m + 1) _ _ (by omega) (by omega)
        exact loop n z 0 0 state (by omega) (by omega)
      · rw [e9, e10]
        exact ⟨_, _, rfl, rfl⟩
    · rw [e9, e10]
      exact ⟨_, _, rfl, rfl⟩
  · rw [hwi.2 q]
    simp only [Option.bind_some, if_true]
    by_cases q1 : a < 1
    · rw [if_pos (show i3 a < 1 by rw [i3_l1, i3_lt (by omega) (by omega) (by omega) (by omega)]; omega)]
      exact ⟨_, _, rfl, rfl⟩
    · rw [if_neg (show ¬ i3 a < 1 by rw [i3_l1, i3_lt (by omega) (by omega) (by omega) (by omega)]; omega), if_pos (show (200 : Int32) < i3 a by rw [i3_l200, i3_lt (by omega) (by omega) (by omega) (by omega)]; omega)]
      exact ⟨_, _, rfl, rfl⟩
