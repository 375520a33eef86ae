/-! ===== the text: splits told, the line of a book ===== -/
def e8 (bs : Nat → Nat) (f : Nat) : Nat → Nat
  | 0 => 0
  | d + 1 => 8 * e8 bs f d + (bs (f + d) - 48)
def es (bs : Nat → Nat) (f : Nat) : Nat → Nat
  | 0 => 0
  | d + 1 => es bs f d + (bs (f + d) - 48)
theorem e8_ok {bs : Nat → Nat} {f : Nat} : ∀ (d : Nat), (∀ k, k < d → bs (f + k) ≤ 55) → e8 bs f d < 8 ^ d ∧ dsum d (e8 bs f d) = es bs f d ∧ es bs f d ≤ 7 * d := by
  intro d
  induction d with
  | zero => intro _; exact ⟨by show (0 : Nat) < 1; omega, rfl, Nat.le_refl _⟩
  | succ d ih =>
    intro h
    obtain ⟨h1, h2, h3⟩ := ih (fun k hk => h k (by omega))
    have hd := h d (by omega)
    refine ⟨?_, ?_, ?_⟩
    · show 8 * e8 bs f d + (bs (f + d) - 48) < 8 ^ (d + 1)
      rw [Nat.pow_succ]
      omega
    · show (8 * e8 bs f d + (bs (f + d) - 48)) % 8 + dsum d ((8 * e8 bs f d + (bs (f + d) - 48)) / 8) = es bs f d + (bs (f + d) - 48)
      rw [show (8 * e8 bs f d + (bs (f + d) - 48)) / 8 = e8 bs f d by omega, h2]
      omega
    · show es bs f d + (bs (f + d) - 48) ≤ 7 * (d + 1)
      omega
theorem and7 : ∀ d : Fin 8, i3 ((d.val : Nat) : Int) &&& 7 = i3 ((d.val : Nat) : Int) := by decide
theorem eights_ok {z n f K : Nat} (hz : 1000 ≤ z) {bs : Nat → Nat} {bytes tape : Nat → Int32} (hB : TB n bs bytes tape) (hn : f + K ≤ n) (hd : ∀ k, k < K → 48 ≤ bs (f + k)) : ∀ (rem w k : Nat), k + rem = K → rem < w → ((∀ j, j < K → bs (f + j) ≤ 55) → F7_eights_b22 z w (i3 (e8 bs f k : Nat)) (i3 (f + k : Nat)) bytes (i3 f) (i3 (f + K : Nat)) = some (i3 (e8 bs f K : Nat))) ∧ ((∃ j, k ≤ j ∧ j < K ∧ ¬ bs (f + j) ≤ 55) → F7_eights_b22 z w (i3 (e8 bs f k : Nat)) (i3 (f + k : Nat)) bytes (i3 f) (i3 (f + K : Nat)) = some (-1)) := by
  have h3 := hB.1
  intro rem
  induction rem with
  | zero =>
    intro w k hk hw
    obtain ⟨w, rfl⟩ : ∃ w', w = w' + 1 := ⟨w - 1, by omega⟩
    obtain rfl : k = K := by omega
    unfold F7_eights_b22
    rw [if_pos (by rw [i3_le (by omega) (by omega) (by omega) (by omega)]; omega)]
    exact ⟨fun _ => rfl, fun ⟨j, h1, h2, _⟩ => by omega⟩
  | succ rem ih =>
    intro w k hk hw
    obtain ⟨w, rfl⟩ : ∃ w', w = w' + 1 := ⟨w - 1, by omega⟩
    obtain ⟨b1, b2, b3⟩ := hB.2 (f + k) (by omega)
    have dk := hd k (by omega)
    obtain ⟨i1, i2⟩ := ih w (k + 1) (by omega) (by omega)
    unfold F7_eights_b22
    rw [if_neg (show ¬ i3 ((f + K : Nat) : Int) ≤ i3 ((f + k : Nat) : Int) by rw [i3_le (by omega) (by omega) (by omega) (by omega)]; omega)]
    simp (disch := omega) only [xg_in, i3_xnN]
    rw [b2, show i3 ((f + k : Nat) : Int) + 1 = i3 ((f + (k + 1) : Nat) : Int) from by rw [i3_l1, i3_add]; rfl, show i3 (e8 bs f k : Nat) * 8 + i3 (bs (f + k) : Int) - 48 = i3 (e8 bs f (k + 1) : Nat) from by
      rw [i3_l8, i3_l48, i3_mul, i3_add, i3_sub]
      congr 1
      show (e8 bs f k : Int) * 8 + (bs (f + k) : Int) - 48 = ((8 * e8 bs f k + (bs (f + k) - 48) : Nat) : Int)
      omega]
    by_cases q : bs (f + k) ≤ 55
    · rw [if_pos (show i3 (bs (f + k) : Int) ≤ 55 by rw [show (55 : Int32) = i3 55 from rfl, i3_le (by omega) (by omega) (by omega) (by omega)]; omega)]
      refine ⟨i1, fun ⟨j, h1, h2, h4⟩ => i2 ⟨j, ?_, h2, h4⟩⟩
      by_cases c : j = k
      · subst c; exact absurd q h4
      · omega
    · rw [if_neg (show ¬ i3 (bs (f + k) : Int) ≤ 55 by rw [show (55 : Int32) = i3 55 from rfl, i3_le (by omega) (by omega) (by omega) (by omega)]; omega)]
      exact ⟨fun h => absurd (h k (by omega)) q, fun _ => rfl⟩
theorem here10_ok {z n f K : Nat} (hz : 1000 ≤ z) {bs : Nat → Nat} {bytes tape : Nat → Int32} (hB : TB n bs bytes tape) (hn : f + K ≤ n) (hK : K ≤ 4) (hd : ∀ k, k < K → 48 ≤ bs (f + k) ∧ bs (f + k) ≤ 57) (x1 : Int32) (read : Nat → Int32) : ∀ (rem w k : Nat) (x2 : Int32) (S : Int), k + rem = K → rem < w → ((∀ j, j < k → bs (f + j) ≤ 55) → x2 = i3 (e8 bs f k : Nat) ∧ S = (es bs f k : Nat)) → ((¬ ∀ j, j < k → bs (f + j) ≤ 55) → 1000000 ≤ S) → S ≤ 1000010 * (k : Int) → 0 ≤ S → ((∀ j, j < K → bs (f + j) ≤ 55) → F10_splitHere_b30 z w x1 x2 (i3 S) (i3 (f + k : Nat)) read tape (i3 n) (i3 f) (i3 (f + K : Nat)) = F10_splitHere_b84 z x1 (i3 (e8 bs f K : Nat)) (i3 (es bs f K : Nat)) read tape (i3 n) (i3 f) (i3 (f + K : Nat))) ∧ ((¬ ∀ j, j < K → bs (f + j) ≤ 55) → ∃ (x2' : Int32) (S' : Int), 1000000 ≤ S' ∧ S' ≤ 5000000 ∧ F10_splitHere_b30 z w x1 x2 (i3 S) (i3 (f + k : Nat)) read tape (i3 n) (i3 f) (i3 (f + K : Nat)) = F10_splitHere_b84 z x1 x2' (i3 S') read tape (i3 n) (i3 f) (i3 (f + K : Nat))) := by
  have h3 := hB.1
  intro rem
  induction rem with
  | zero =>
    intro w k x2 S hk hw g1 g2 g3 g4
    obtain ⟨w, rfl⟩ : ∃ w', w = w' + 1 := ⟨w - 1, by omega⟩
    obtain rfl : k = K := by omega
    unfold F10_splitHere_b30
    rw [if_pos (by rw [i3_le (by omega) (by omega) (by omega) (by omega)]; omega)]
    refine ⟨fun h => by rw [(g1 h).1, (g1 h).2], fun h => ⟨x2, S, g2 h, by omega, rfl⟩⟩
  | succ rem ih =>
    intro w k x2 S hk hw g1 g2 g3 g4
    obtain ⟨w, rfl⟩ : ∃ w', w = w' + 1 := ⟨w - 1, by omega⟩
    obtain ⟨b1, b2, b3⟩ := hB.2 (f + k) (by omega)
    have dk := hd k (by omega)
    unfold F10_splitHere_b30 F10_splitHere_b65
    rw [if_neg (show ¬ i3 ((f + K : Nat) : Int) ≤ i3 ((f + k : Nat) : Int) by rw [i3_le (by omega) (by omega) (by omega) (by omega)]; omega), byteAt_in hB (by omega)]
    simp only [Option.bind_some]
    rw [show i3 ((f + k : Nat) : Int) + 1 = i3 ((f + (k + 1) : Nat) : Int) from by rw [i3_l1, i3_add]; rfl, i3_l48, i3_sub]
    by_cases q : bs (f + k) ≤ 55
    · rw [if_pos (show i3 ((bs (f + k) : Int) - 48) ≤ 7 by rw [i3_l7, i3_le (by omega) (by omega) (by omega) (by omega)]; omega), i3_add]
      refine ih w (k + 1) _ _ (by omega) (by omega) (fun h => ?_) (fun h => ?_) ?_ ?_
      · obtain ⟨a1, a2⟩ := g1 (fun j hj => h j (by omega))
        have a7 := and7 ⟨bs (f + k) - 48, by omega⟩
        have e : (bs (f + k) : Int) - 48 = ((bs (f + k) - 48 : Nat) : Int) := by omega
        constructor
        · rw [a1, e, a7, i3_l8, i3_mul, i3_add]
          rfl
        · rw [a2, e]
          rfl
      · have : ¬ ∀ j, j < k → bs (f + j) ≤ 55 := fun g => h (fun j hj => by
          by_cases c : j = k
          · rw [c]; exact q
          · exact g j (by omega))
        have := g2 this
        omega
      · omega
      · omega
    · rw [if_neg (show ¬ i3 ((bs (f + k) : Int) - 48) ≤ 7 by rw [i3_l7, i3_le (by omega) (by omega) (by omega) (by omega)]; omega), i3_l1000000, i3_add]
      refine ih w (k + 1) _ _ (by omega) (by omega) (fun h => absurd (h k (by omega)) q) (fun h => ?_) ?_ ?_
      · omega
      · omega
      · omega
theorem here_both {z n p K : Nat} (hz : 1000 ≤ z) {bs : Nat → Nat} {bytes tape : Nat → Int32} (hB : TB n bs bytes tape) {kind from' behind : Int32} (hC : TCk bs n p kind from' behind) {fromR next token value : Int32} (hR : TRk bs n p fromR next token value) (h2 : tkK bs n p = 2) {W : Nat → Int} {t : Int} {fo : Nat → Nat} {fields ties : Int32} {worth forces many : Nat → Int32} {codes : Nat → Nat → Int32} (hX : SX K W t fo fields ties worth forces many codes) {read : Nat → Int32} (hT : TD K W t fo read) {s : Nat} (hs : s < 2) : (∃ i, i < ns K (fo s) ∧ F8_splitHere z (i3 s) bytes from' behind fields many codes = some (i3 (i : Nat)) ∧ F10_splitHere z (i3 s) read tape (i3 n) fromR next = some (i3 (cd K (fo s) i : Nat))) ∨ (F8_splitHere z (i3 s) bytes from' behind fields many codes = some (-1) ∧ F10_splitHere z (i3 s) read tape (i3 n) fromR next = some (-1)) := by
  obtain ⟨c1, c2, c3, c4⟩ := hC
  obtain ⟨r1, r2, r3, r4, r5⟩ := hR
  obtain ⟨f1, f2, f3, f4, f5, f6⟩ := tk_facts bs c1
  obtain ⟨d1, d2⟩ := f5 h2
  have hV := hX.1
  have hf := hX.2.1 s hs
  have n0 := ns_bd hV hf
  have n3 := hB.1
  have K4 := hV.2.1
  have none9 : F4_numberOf z (i3 s) (-1) many codes = some (-1) := by
    rw [F4_numberOf_ok hX hs (by omega)]
    unfold nmb
    rw [fnd_none (fun j _ hj => decide_eq_false (by
      have := cd_lt K4 (show j < ns K (fo s) by omega)
      rw [i3_m1, i3_eq (by omega) (by omega) (by omega) (by omega)]; omega))]
    rfl
  unfold F8_splitHere F7_eights F10_splitHere
  rw [c3, c4 (by omega), r2, r3, hX.2.2.1, hT.1, i3_sub]
  by_cases ql : tkN bs n p - spc bs n p = K
  · have eN : tkN bs n p = spc bs n p + K := by omega
    rw [if_pos (show i3 ((tkN bs n p : Nat) - (spc bs n p : Nat) : Int) = i3 (K : Nat) by congr 1; omega), if_pos (show i3 ((tkN bs n p : Nat) - (spc bs n p : Nat) : Int) = i3 (K : Nat) by congr 1; omega), eN]
    have ei := eights_ok (f := spc bs n p) (K := K) hz hB (by omega) (fun k hk => (d2 (spc bs n p + k) (by omega) (by omega)).1) K z 0 (by omega) (by omega)
    have ri := here10_ok (f := spc bs n p) (K := K) hz hB (by omega) K4 (fun k hk => d2 (spc bs n p + k) (by omega) (by omega)) (i3 s) read K z 0 0 0 (by omega) (by omega) (fun _ => ⟨rfl, rfl⟩) (fun h => absurd (fun j hj => absurd hj (Nat.not_lt_zero j)) h) (by omega) (by omega)
    have e50 : (5 : Int32) + i3 (s : Int) = i3 ((5 + s : Nat) : Int) := by rw [i3_l5, i3_add]; rfl
    by_cases qa : ∀ j, j < K → bs (spc bs n p + j) ≤ 55
    · have e9 : F7_eights_b22 z z 0 (i3 (spc bs n p : Nat)) bytes (i3 (spc bs n p : Nat)) (i3 (spc bs n p + K : Nat)) = some (i3 (e8 bs (spc bs n p) K : Nat)) := ei.1 qa
      have e10 : F10_splitHere_b30 z z (i3 s) 0 0 (i3 (spc bs n p : Nat)) read tape (i3 n) (i3 (spc bs n p : Nat)) (i3 (spc bs n p + K : Nat)) = _ := ri.1 qa
      obtain ⟨o1, o2, o3⟩ := e8_ok (bs := bs) (f := spc bs n p) K qa
      have p8 := pow8 K4
      rw [e9, e10]
      simp only [Option.bind_some]
      unfold F10_splitHere_b84
      rw [e50]
      simp (disch := omega) only [xg_in, i3_xnN]
      rw [hT.2.2.1 s hs]
      by_cases qs : es bs (spc bs n p) K = fo s
      · obtain ⟨i, hi, ec⟩ := cd_surj o1 (o2.trans qs)
        refine Or.inl ⟨i, hi, ?_, ?_⟩
        · rw [F4_numberOf_ok hX hs (by omega), ← ec, nmb_cd K4 hi]
          rfl
        · rw [if_pos (by rw [qs]), ec]
      · refine Or.inr ⟨?_, ?_⟩
        · rw [F4_numberOf_ok hX hs (by omega)]
          unfold nmb
          rw [fnd_none (fun j _ hj => decide_eq_false (by
            have := cd_lt K4 (show j < ns K (fo s) by omega)
            have hm := cl_mem.mp (cd_mem (K := K) (f := fo s) (i := j) (by omega))
            rw [i3_eq (by omega) (by omega) (by omega) (by omega)]
            intro e
            have e' : cd K (fo s) j = e8 bs (spc bs n p) K := by omega
            rw [e', o2] at hm
            exact qs hm.2))]
          rfl
        · rw [if_neg (by rw [i3_eq (by omega) (by omega) (by omega) (by omega)]; omega)]
    · obtain ⟨j, hj, hj2⟩ : ∃ j, j < K ∧ ¬ bs (spc bs n p + j) ≤ 55 := by
        apply Classical.byContradiction
        intro g
        exact qa (fun j hj => Classical.byContradiction (fun c => g ⟨j, hj, c⟩))
      have e9 : F7_eights_b22 z z 0 (i3 (spc bs n p : Nat)) bytes (i3 (spc bs n p : Nat)) (i3 (spc bs n p + K : Nat)) = some (-1) := ei.2 ⟨j, Nat.zero_le _, hj, hj2⟩
      obtain ⟨x2', S', s1, s2, e10'⟩ := ri.2 qa
      have e10 : F10_splitHere_b30 z z (i3 s) 0 0 (i3 (spc bs n p : Nat)) read tape (i3 n) (i3 (spc bs n p : Nat)) (i3 (spc bs n p + K : Nat)) = _ := e10'
      rw [e9, e10]
      simp only [Option.bind_some]
      unfold F10_splitHere_b84
      rw [e50, none9]
      simp (disch := omega) only [xg_in, i3_xnN]
      rw [hT.2.2.1 s hs, if_neg (by rw [i3_eq (by omega) (by omega) (by omega) (by omega)]; omega)]
      exact Or.inr ⟨rfl, rfl⟩
  · rw [if_neg (show ¬ i3 ((tkN bs n p : Nat) - (spc bs n p : Nat) : Int) = i3 (K : Nat) by rw [i3_eq (by omega) (by omega) (by omega) (by omega)]; omega), if_neg (show ¬ i3 ((tkN bs n p : Nat) - (spc bs n p : Nat) : Int) = i3 (K : Nat) by rw [i3_eq (by omega) (by omega) (by omega) (by omega)]; omega)]
    simp only [Option.bind_some]
    rw [none9]
    exact Or.inr ⟨rfl, trivial⟩
theorem hasRead_ok {z base m : Nat} (hz : 1000 ≤ z) (hb : base + m ≤ 56) {f : Nat → Nat} {read : Nat → Int32} (hf : ∀ k, k < m → read (base + k) = i3 (f k : Nat) ∧ f k < 10000) {c : Nat} (hc : c < 10000) : ((∃ k, k < m ∧ f k = c) → F10_hasRead z (i3 base) (i3 m) (i3 c) read = some 1) ∧ (¬ (∃ k, k < m ∧ f k = c) → F10_hasRead z (i3 base) (i3 m) (i3 c) read = some 0) := by
  have yes : ∀ (rem w k : Nat), k + rem = m → rem < w → F10_hasRead_b6 z w (i3 base) (i3 m) (i3 c) 1 (i3 k) read = some 1 := by
    intro rem
    induction rem with
    | zero =>
      intro w k hk hw
      obtain ⟨w, rfl⟩ : ∃ w', w = w' + 1 := ⟨w - 1, by omega⟩
      unfold F10_hasRead_b6
      rw [if_pos (by rw [i3_le (by omega) (by omega) (by omega) (by omega)]; omega)]
      rfl
    | succ rem ih =>
      intro w k hk hw
      obtain ⟨w, rfl⟩ : ∃ w', w = w' + 1 := ⟨w - 1, by omega⟩
      unfold F10_hasRead_b6 F10_hasRead_b35
      rw [if_neg (by rw [i3_le (by omega) (by omega) (by omega) (by omega)]; omega), if_neg n10, show i3 (k : Int) + 1 = i3 ((k + 1 : Nat) : Int) from by rw [i3_l1, i3_add]; rfl]
      exact ih w (k + 1) (by omega) (by omega)
  have loop : ∀ (rem w k : Nat), k + rem = m → rem < w → ((∃ j, k ≤ j ∧ j < m ∧ f j = c) → F10_hasRead_b6 z w (i3 base) (i3 m) (i3 c) 0 (i3 k) read = some 1) ∧ (¬ (∃ j, k ≤ j ∧ j < m ∧ f j = c) → F10_hasRead_b6 z w (i3 base) (i3 m) (i3 c) 0 (i3 k) read = some 0) := by
    intro rem
    induction rem with
    | zero =>
      intro w k hk hw
      obtain ⟨w, rfl⟩ : ∃ w', w = w' + 1 := ⟨w - 1, by omega⟩
      unfold F10_hasRead_b6
      rw [if_pos (by rw [i3_le (by omega) (by omega) (by omega) (by omega)]; omega)]
      exact ⟨fun ⟨j, h1, h2, _⟩ => by omega, fun _ => rfl⟩
    | succ rem ih =>
      intro w k hk hw
      obtain ⟨w, rfl⟩ : ∃ w', w = w' + 1 := ⟨w - 1, by omega⟩
      obtain ⟨q1, q2⟩ := hf k (by omega)
      obtain ⟨i1, i2⟩ := ih w (k + 1) (by omega) (by omega)
      have ea : i3 (base : Nat) + i3 (k : Nat) = i3 ((base + k : Nat) : Int) := by rw [i3_add]; rfl
      unfold F10_hasRead_b6 F10_hasRead_b35
      rw [if_neg (show ¬ i3 (m : Int) ≤ i3 (k : Int) by rw [i3_le (by omega) (by omega) (by omega) (by omega)]; omega), ea]
      simp (disch := omega) only [xg_in, i3_xnN, if_true]
      rw [q1, show i3 (k : Int) + 1 = i3 ((k + 1 : Nat) : Int) from by rw [i3_l1, i3_add]; rfl]
      by_cases q : f k = c
      · rw [if_pos (by rw [q])]
        exact ⟨fun _ => yes rem w (k + 1) (by omega) (by omega), fun h => absurd ⟨k, Nat.le_refl _, by omega, q⟩ h⟩
      · rw [if_neg (by rw [i3_eq (by omega) (by omega) (by omega) (by omega)]; omega)]
        refine ⟨fun ⟨j, h1, h2, h4⟩ => i1 ⟨j, ?_, h2, h4⟩, fun h => i2 (fun ⟨j, h1, h2⟩ => h ⟨j, by omega, h2⟩)⟩
        by_cases c' : j = k
        · subst c'; exact absurd h4 q
        · omega
  obtain ⟨l1, l2⟩ := loop m z 0 (by omega) (by omega)
  exact ⟨fun ⟨k, h1, h2⟩ => l1 ⟨k, Nat.zero_le _, h1, h2⟩, fun h => l2 (fun ⟨k, _, h1, h2⟩ => h ⟨k, h1, h2⟩)⟩
