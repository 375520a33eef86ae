/-! ===== the text: the reference's tokens, values ===== -/
theorem byteAt_in {n k : Nat} {bs : Nat → Nat} {bytes tape : Nat → Int32} (hB : TB n bs bytes tape) (hk : k < n) : F10_byteAt (i3 k) tape (i3 n) = some (i3 (bs k : Nat)) := by
  have h3 := hB.1
  unfold F10_byteAt
  rw [if_neg (show ¬ i3 (n : Int) ≤ i3 (k : Int) by rw [i3_le (by omega) (by omega) (by omega) (by omega)]; omega)]
  simp (disch := omega) only [xg_in, i3_xnN]
  rw [(hB.2 k hk).2.2]
theorem byteAt_out {n k : Nat} {bs : Nat → Nat} {bytes tape : Nat → Int32} (hB : TB n bs bytes tape) (hk : n ≤ k) (hk2 : k ≤ 10000) : F10_byteAt (i3 k) tape (i3 n) = some (i3 (-1)) := by
  have h3 := hB.1
  unfold F10_byteAt
  rw [if_pos (show i3 (n : Int) ≤ i3 (k : Int) by rw [i3_le (by omega) (by omega) (by omega) (by omega)]; omega)]
  rfl
theorem wiL {a : Int} (h1 : -1000 ≤ a) (h2 : a ≤ 1000) : F10_within (i3 a) 97 122 = some (if 97 ≤ a ∧ a ≤ 122 then 1 else 0) := within10 (l := 97) (h := 122) (by omega) (by omega) (by omega) (by omega) (by omega) (by omega)
theorem wiD {a : Int} (h1 : -1000 ≤ a) (h2 : a ≤ 1000) : F10_within (i3 a) 48 57 = some (if 48 ≤ a ∧ a ≤ 57 then 1 else 0) := within10 (l := 48) (h := 57) (by omega) (by omega) (by omega) (by omega) (by omega) (by omega)
/-- a number's value, four digits at most -/
theorem go_ok {z n : Nat} (hz : 1000 ≤ z) {bs : Nat → Nat} {bytes tape : Nat → Int32} (hB : TB n bs bytes tape) {p : Nat} (hp : p ≤ n) (from' token value : Int32) : ∃ v, F10_go z tape (i3 n) from' (i3 p) token value = some (i3 (spc bs n p : Nat), i3 (tkN bs n p : Nat), i3 (tkK bs n p : Nat), v) ∧ (tkK bs n p = 2 → v = i3 (dvl bs (spc bs n p) (tkN bs n p - spc bs n p))) := by
  have h3 := hB.1
  have loop : ∀ (d w p : Nat) (fr : Int32), p + d = n → d < w → F10_go_b0 z w tape (i3 n) fr (i3 p) token value = F10_go_b39 z tape (i3 n) fr (i3 (rnn (isSp bs) d p : Nat)) token value := by
    intro d
    induction d with
    | zero =>
      intro w p fr hp hw
      obtain ⟨w, rfl⟩ : ∃ w', w = w' + 1 := ⟨w - 1, by omega⟩
      unfold F10_go_b0
      rw [byteAt_out hB (by omega) (by omega)]
      rfl
    | succ d ih =>
      intro w p fr hp hw
      obtain ⟨w, rfl⟩ : ∃ w', w = w' + 1 := ⟨w - 1, by omega⟩
      have b1 := (hB.2 p (by omega)).1
      unfold F10_go_b0 F10_go_b26
      rw [byteAt_in hB (by omega)]
      simp only [Option.bind_some]
      rw [show i3 (p : Int) + 1 = i3 ((p + 1 : Nat) : Int) from by rw [i3_l1, i3_add]; rfl]
      by_cases c1 : bs p = 32
      · have e : rnn (isSp bs) (d + 1) p = rnn (isSp bs) d (p + 1) := if_pos (by unfold isSp; rw [decide_eq_true_iff]; omega)
        rw [if_pos (show i3 (bs p : Int) = 32 by rw [c1]; rfl), e]
        exact ih w (p + 1) fr (by omega) (by omega)
      · rw [if_neg (show ¬ i3 (bs p : Int) = 32 by rw [show (32 : Int32) = i3 32 from rfl, i3_eq (by omega) (by omega) (by omega) (by omega)]; omega)]
        by_cases c2 : bs p = 10
        · have e : rnn (isSp bs) (d + 1) p = rnn (isSp bs) d (p + 1) := if_pos (by unfold isSp; rw [decide_eq_true_iff]; omega)
          rw [if_pos (show i3 (bs p : Int) = 10 by rw [c2]; rfl), e]
          exact ih w (p + 1) fr (by omega) (by omega)
        · have e : rnn (isSp bs) (d + 1) p = p := if_neg (by unfold isSp; rw [decide_eq_true_iff]; omega)
          rw [if_neg (show ¬ i3 (bs p : Int) = 10 by rw [i3_l10, i3_eq (by omega) (by omega) (by omega) (by omega)]; omega), e]
  have hs := spc_bd bs hp
  generalize hf : spc bs n p = f at hs
  have letters : ∀ (d w q : Nat), q + d = n → d < w → F10_go_b79 z w tape (i3 n) (i3 f) (i3 q) token value = some (i3 f, i3 (rnn (isIn bs 97 122) d q : Nat), 1, value) := by
    intro d
    induction d with
    | zero =>
      intro w q hq hw
      obtain ⟨w, rfl⟩ : ∃ w', w = w' + 1 := ⟨w - 1, by omega⟩
      unfold F10_go_b79 F10_go_b110
      rw [byteAt_out hB (by omega) (by omega)]
      rfl
    | succ d ih =>
      intro w q hq hw
      obtain ⟨w, rfl⟩ : ∃ w', w = w' + 1 := ⟨w - 1, by omega⟩
      have b1 := (hB.2 q (by omega)).1
      unfold F10_go_b79 F10_go_b110
      rw [byteAt_in hB (by omega)]
      simp only [Option.bind_some]
      rw [wiL (by omega) (by omega)]
      simp only [Option.bind_some]
      by_cases c : 97 ≤ bs q ∧ bs q ≤ 122
      · have e : rnn (isIn bs 97 122) (d + 1) q = rnn (isIn bs 97 122) d (q + 1) := if_pos (decide_eq_true c)
        rw [if_pos (show (97 : Int) ≤ (bs q : Int) ∧ (bs q : Int) ≤ 122 by omega), if_neg n10, e, show i3 (q : Int) + 1 = i3 ((q + 1 : Nat) : Int) from by rw [i3_l1, i3_add]; rfl]
        exact ih w (q + 1) (by omega) (by omega)
      · have e : rnn (isIn bs 97 122) (d + 1) q = q := if_neg (by unfold isIn; rw [decide_eq_true_iff]; exact c)
        rw [if_neg (show ¬ ((97 : Int) ≤ (bs q : Int) ∧ (bs q : Int) ≤ 122) by omega), if_pos rfl, e]
  have digits : ∀ (d w q : Nat) (v : Int32), q + d = n → d < w → f ≤ q → (q - f ≤ 4 → v = i3 (dvl bs f (q - f))) → ∃ v', F10_go_b134 z w tape (i3 n) (i3 f) (i3 q) token v = some (i3 f, i3 (rnn (isIn bs 48 57) d q : Nat), i3 ((if 5 ≤ rnn (isIn bs 48 57) d q - f then 4 else 2 : Nat) : Int), v') ∧ (rnn (isIn bs 48 57) d q - f ≤ 4 → v' = i3 (dvl bs f (rnn (isIn bs 48 57) d q - f))) := by
    have fin : ∀ (q : Nat) (v : Int32), f ≤ q → q ≤ n → F10_go_b208 z tape (i3 n) (i3 f) (i3 q) token v = some (i3 f, i3 (q : Nat), i3 ((if 5 ≤ q - f then 4 else 2 : Nat) : Int), v) := by
      intro q v h1 h2
      unfold F10_go_b208 F10_go_b227
      rw [i3_sub, i3_l5]
      by_cases c : 5 ≤ q - f
      · rw [if_pos (show i3 5 ≤ i3 _ by rw [i3_le (by omega) (by omega) (by omega) (by omega)]; omega), if_pos c]
        rfl
      · rw [if_neg (show ¬ i3 5 ≤ i3 _ by rw [i3_le (by omega) (by omega) (by omega) (by omega)]; omega), if_neg c]
        rfl
    intro d
    induction d with
    | zero =>
      intro w q v hq hw hfq hv
      obtain ⟨w, rfl⟩ : ∃ w', w = w' + 1 := ⟨w - 1, by omega⟩
      refine ⟨v, ?_, hv⟩
      unfold F10_go_b134
      rw [byteAt_out hB (by omega) (by omega)]
      simp only [Option.bind_some]
      rw [wiD (by omega) (by omega)]
      exact fin q v hfq (by omega)
    | succ d ih =>
      intro w q v hq hw hfq hv
      obtain ⟨w, rfl⟩ : ∃ w', w = w' + 1 := ⟨w - 1, by omega⟩
      have b1 := (hB.2 q (by omega)).1
      unfold F10_go_b134 F10_go_b192
      rw [byteAt_in hB (by omega)]
      simp only [Option.bind_some]
      rw [wiD (by omega) (by omega)]
      simp only [Option.bind_some]
      by_cases c : 48 ≤ bs q ∧ bs q ≤ 57
      · have e : rnn (isIn bs 48 57) (d + 1) q = rnn (isIn bs 48 57) d (q + 1) := if_pos (decide_eq_true c)
        rw [if_pos (show (48 : Int) ≤ (bs q : Int) ∧ (bs q : Int) ≤ 57 by omega), if_neg n10, e, show i3 (q : Int) + 1 = i3 ((q + 1 : Nat) : Int) from by rw [i3_l1, i3_add]; rfl, i3_sub, i3_l4]
        by_cases c4 : 4 ≤ q - f
        · rw [if_pos (show i3 4 ≤ i3 _ by rw [i3_le (by omega) (by omega) (by omega) (by omega)]; omega)]
          exact ih w (q + 1) v (by omega) (by omega) (by omega) (fun h => by omega)
        · rw [if_neg (show ¬ i3 4 ≤ i3 _ by rw [i3_le (by omega) (by omega) (by omega) (by omega)]; omega)]
          refine ih w (q + 1) _ (by omega) (by omega) (by omega) (fun h => ?_)
          rw [hv (by omega), show q + 1 - f = (q - f) + 1 by omega]
          show (10 : Int32) * i3 (dvl bs f (q - f)) + i3 (bs q : Int) - 48 = i3 (dvl bs f (q - f) * 10 + (bs (f + (q - f)) : Int) - 48)
          rw [show f + (q - f) = q by omega, i3_l10, i3_l48, i3_mul, i3_add, i3_sub, Int.mul_comm]
      · have e : rnn (isIn bs 48 57) (d + 1) q = q := if_neg (by unfold isIn; rw [decide_eq_true_iff]; exact c)
        rw [if_neg (show ¬ ((48 : Int) ≤ (bs q : Int) ∧ (bs q : Int) ≤ 57) by omega), if_pos rfl, e]
        exact ⟨v, fin q v hfq (by omega), hv⟩
  unfold F10_go
  rw [loop (n - p) z p from' (by omega) (by omega)]
  have hf' : rnn (isSp bs) (n - p) p = f := hf
  rw [hf']
  unfold tkK tkN
  rw [hf]
  unfold F10_go_b39 F10_go_b255
  by_cases c0 : n ≤ f
  · rw [byteAt_out hB c0 (by omega)]
    simp only [Option.bind_some]
    rw [if_neg (show ¬ (0 : Int32) ≤ i3 (-1) by decide), if_pos c0, if_pos c0]
    exact ⟨_, rfl, fun h => absurd h (by decide)⟩
  · have b1 := (hB.2 f (by omega)).1
    rw [byteAt_in hB (by omega), if_neg c0, if_neg c0]
    simp only [Option.bind_some]
    rw [if_pos (show (0 : Int32) ≤ i3 (bs f : Int) by rw [i3_l0, i3_le (by omega) (by omega) (by omega) (by omega)]; omega), wiL (by omega) (by omega), wiD (by omega) (by omega)]
    simp only [Option.bind_some]
    by_cases c1 : bs f = 59
    · rw [if_neg (show ¬ ((97 : Int) ≤ (bs f : Int) ∧ (bs f : Int) ≤ 122) by omega), if_pos rfl, if_neg (show ¬ ((48 : Int) ≤ (bs f : Int) ∧ (bs f : Int) ≤ 57) by omega), if_pos rfl, if_pos (show i3 (bs f : Int) = 59 by rw [c1]; rfl), if_pos c1, if_pos c1, show i3 (f : Int) + 1 = i3 ((f + 1 : Nat) : Int) from by rw [i3_l1, i3_add]; rfl]
      exact ⟨_, rfl, fun h => absurd h (by decide)⟩
    · rw [if_neg c1, if_neg c1]
      by_cases c2 : 97 ≤ bs f ∧ bs f ≤ 122
      · have e2 : isIn bs 97 122 f = true := decide_eq_true c2
        rw [if_pos (show (97 : Int) ≤ (bs f : Int) ∧ (bs f : Int) ≤ 122 by omega), if_neg n10, e2, if_pos (show true = true from rfl), if_pos (show true = true from rfl), letters (n - f) z f (by omega) (by omega)]
        exact ⟨_, rfl, fun h => absurd h (by decide)⟩
      · have e2 : isIn bs 97 122 f = false := decide_eq_false c2
        rw [if_neg (show ¬ ((97 : Int) ≤ (bs f : Int) ∧ (bs f : Int) ≤ 122) by omega), if_pos rfl, e2, if_neg (show ¬ false = true by decide), if_neg (show ¬ false = true by decide)]
        by_cases c3 : 48 ≤ bs f ∧ bs f ≤ 57
        · have e3 : isIn bs 48 57 f = true := decide_eq_true c3
          rw [if_pos (show (48 : Int) ≤ (bs f : Int) ∧ (bs f : Int) ≤ 57 by omega), if_neg n10, e3, if_pos (show true = true from rfl), if_pos (show true = true from rfl)]
          obtain ⟨v', ev, hv⟩ := digits (n - f) z f 0 (by omega) (by omega) (Nat.le_refl _) (fun _ => by rw [Nat.sub_self]; rfl)
          rw [ev]
          refine ⟨v', rfl, fun h => ?_⟩
          show v' = i3 (dvl bs f (rnn (isIn bs 48 57) (n - f) f - f))
          by_cases c4 : 5 ≤ rnn (isIn bs 48 57) (n - f) f - f
          · have : (if 5 ≤ nbr bs n f - f then 4 else 2) = 4 := if_pos c4
            omega
          · exact hv (by omega)
        · have e3 : isIn bs 48 57 f = false := decide_eq_false c3
          rw [if_neg (show ¬ ((48 : Int) ≤ (bs f : Int) ∧ (bs f : Int) ≤ 57) by omega), if_pos rfl, e3, if_neg (show ¬ false = true by decide), if_neg (show ¬ false = true by decide), if_neg (show ¬ i3 (bs f : Int) = 59 by rw [show (59 : Int32) = i3 59 from rfl, i3_eq (by omega) (by omega) (by omega) (by omega)]; omega), show i3 (f : Int) + 1 = i3 ((f + 1 : Nat) : Int) from by rw [i3_l1, i3_add]; rfl]
          exact ⟨_, rfl, fun h => absurd h (by decide)⟩
theorem amount_ok {z n : Nat} (hz : 1000 ≤ z) {bs : Nat → Nat} {bytes tape : Nat → Int32} (hB : TB n bs bytes tape) {f q : Nat} (hfq : f ≤ q) (hq : q ≤ n) : F7_amount z bytes (i3 f) (i3 q) = some (i3 (dvl bs f (q - f))) := by
  have h3 := hB.1
  have loop : ∀ (rem w k : Nat), k + rem = q → rem < w → f ≤ k → F7_amount_b7 z w (i3 (dvl bs f (k - f))) (i3 k) bytes (i3 f) (i3 q) = some (i3 (dvl bs f (q - f))) := by
    intro rem
    induction rem with
    | zero =>
      intro w k hk hw hfk
      obtain ⟨w, rfl⟩ : ∃ w', w = w' + 1 := ⟨w - 1, by omega⟩
      obtain rfl : k = q := by omega
      unfold F7_amount_b7
      rw [if_pos (by rw [i3_le (by omega) (by omega) (by omega) (by omega)]; omega)]
    | succ rem ih =>
      intro w k hk hw hfk
      obtain ⟨w, rfl⟩ : ∃ w', w = w' + 1 := ⟨w - 1, by omega⟩
      obtain ⟨b1, b2, b3⟩ := hB.2 k (by omega)
      have ih' := ih w (k + 1) (by omega) (by omega) (by omega)
      rw [show k + 1 - f = (k - f) + 1 by omega] at ih'
      have ih'' : F7_amount_b7 z w (i3 (dvl bs f (k - f) * 10 + (bs (f + (k - f)) : Int) - 48)) (i3 (k + 1 : Nat)) bytes (i3 f) (i3 q) = _ := ih'
      rw [show f + (k - f) = k by omega] at ih''
      unfold F7_amount_b7
      rw [if_neg (show ¬ i3 (q : Int) ≤ i3 (k : Int) by rw [i3_le (by omega) (by omega) (by omega) (by omega)]; omega)]
      simp (disch := omega) only [xg_in, i3_xnN]
      rw [b2, i3_l10, i3_l48, i3_mul, i3_add, i3_sub, show i3 (k : Int) + 1 = i3 ((k + 1 : Nat) : Int) from by rw [i3_l1, i3_add]; rfl]
      exact ih''
  have := loop (q - f) z f (by omega) (by omega) (Nat.le_refl _)
  rw [Nat.sub_self] at this
  exact this
