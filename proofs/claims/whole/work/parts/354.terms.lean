/-! ===== fractions in lowest terms ===== -/
theorem gcd_step (c r : Nat) : Nat.gcd r c = Nat.gcd (c % r) r := Nat.gcd_rec r c
theorem mod_half {c r : Nat} (h : 0 < c % r) (hr : 0 < r) : 2 * (r % (c % r)) < r := by
  have h1 : c % r < r := Nat.mod_lt _ hr
  have h2 : r % (c % r) < c % r := Nat.mod_lt _ h
  have h3 := Nat.div_add_mod r (c % r)
  have h4 : 1 ≤ r / (c % r) := Nat.div_pos (Nat.le_of_lt h1) h
  have h5 : c % r * 1 ≤ c % r * (r / (c % r)) := Nat.mul_le_mul_left _ h4
  omega
theorem i6_rem {a b : Nat} (ha : a < 2 ^ 62) (hb : b < 2 ^ 62) (hb0 : 0 < b) : i6 (a : Int) - i6 (a : Int) / i6 (b : Int) * i6 (b : Int) = i6 ((a % b : Nat) : Int) := by
  have hl : a / b * b ≤ a := Nat.div_mul_le_self a b
  rw [i6_div (by omega) (by omega) (by omega) (by omega), i6_mul, i6_sub]
  congr 1
  have e : (a : Int).tdiv (b : Int) = ((a / b : Nat) : Int) := by
    rw [Int.tdiv_eq_ediv_of_nonneg (by omega)]; rfl
  rw [e]
  have h := Nat.div_add_mod a b
  have e2 : ((a / b : Nat) : Int) * (b : Int) = ((a / b * b : Nat) : Int) := by push_cast; rfl
  rw [e2]
  have h2 : a / b * b + a % b = a := by rw [Nat.mul_comm]; exact h
  omega
theorem cmp_ne0 {r : Nat} (h0 : 0 < r) (h : r < 2 ^ 62) : ¬ lg_cmp (i6 (r : Int)) 0 = 0 := by
  rw [i6_l0, cmp_gt (by omega) (by omega) (by omega) (by omega) (by omega)]; decide
theorem F9_lowest_b12_ok {z : Nat} {A B : Int64} {wh : Int32} : ∀ (n c r cnt w : Nat), c < 2 ^ 62 → r < 2 ^ 62 → r < 2 ^ n → cnt + (2 * n + 1) ≤ 200 → 2 * n + 1 < w → F9_lowest_b12 z w A B wh (i6 (c : Int)) (i6 (r : Int)) (i3 cnt) = F9_lowest_b48 z A B wh (i6 ((Nat.gcd r c : Nat) : Int)) := by
  intro n
  induction n with
  | zero =>
    intro c r cnt w hc hr hn hcnt hw
    obtain ⟨w, rfl⟩ : ∃ w', w = w' + 1 := ⟨w - 1, by omega⟩
    have e : r = 0 := by omega
    subst e
    unfold F9_lowest_b12
    rw [if_neg (by rw [i3_l200, i3_le (by omega) (by omega) (by omega) (by omega)]; omega), if_pos (by exact cmp_eq 0), Nat.gcd_zero_left]
  | succ n ih =>
    intro c r cnt w hc hr hn hcnt hw
    obtain ⟨w, rfl⟩ : ∃ w', w = w' + 1 := ⟨w - 1, by omega⟩
    unfold F9_lowest_b12
    rw [if_neg (by rw [i3_l200, i3_le (by omega) (by omega) (by omega) (by omega)]; omega)]
    by_cases h0 : r = 0
    · subst h0
      rw [if_pos (by exact cmp_eq 0), Nat.gcd_zero_left]
    · rw [if_neg (cmp_ne0 (by omega) hr), xnzl_i6 _ (by omega) (by omega) (by omega), i6_rem hc hr (by omega), gcd_step c r, i3_l1, i3_add]
      have hm : c % r < r := Nat.mod_lt _ (by omega)
      obtain ⟨w, rfl⟩ : ∃ w', w = w' + 1 := ⟨w - 1, by omega⟩
      unfold F9_lowest_b12
      rw [if_neg (by rw [i3_l200, i3_le (by omega) (by omega) (by omega) (by omega)]; omega)]
      by_cases h1 : c % r = 0
      · rw [h1, if_pos (by exact cmp_eq 0), Nat.gcd_zero_left]
      · rw [if_neg (cmp_ne0 (by omega) (by omega)), xnzl_i6 _ (by omega) (by omega) (by omega), i6_rem hr (by omega) (by omega), gcd_step r (c % r), i3_l1, i3_add]
        have hh := mod_half (c := c) (r := r) (by omega) (by omega)
        have hp : 2 ^ (n + 1) = 2 * 2 ^ n := by rw [Nat.pow_succ]; omega
        exact ih (c % r) (r % (c % r)) (cnt + 1 + 1) w (by omega) (by omega) (by omega) (by omega) (by omega)
theorem F10_divisor_b17_ok {z : Nat} : ∀ (n c r w : Nat), c < 2 ^ 62 → r < 2 ^ 62 → r < 2 ^ n → 2 * n + 1 < w → F10_divisor_b17 z w (i6 (c : Int)) (i6 (r : Int)) = some (i6 ((Nat.gcd r c : Nat) : Int)) := by
  intro n
  induction n with
  | zero =>
    intro c r w hc hr hn hw
    obtain ⟨w, rfl⟩ : ∃ w', w = w' + 1 := ⟨w - 1, by omega⟩
    have e : r = 0 := by omega
    subst e
    unfold F10_divisor_b17
    rw [if_pos (by exact cmp_eq 0), Nat.gcd_zero_left]
    rfl
  | succ n ih =>
    intro c r w hc hr hn hw
    obtain ⟨w, rfl⟩ : ∃ w', w = w' + 1 := ⟨w - 1, by omega⟩
    unfold F10_divisor_b17
    by_cases h0 : r = 0
    · subst h0
      rw [if_pos (by exact cmp_eq 0), Nat.gcd_zero_left]
      rfl
    · rw [if_neg (cmp_ne0 (by omega) hr), xnzl_i6 _ (by omega) (by omega) (by omega), i6_rem hc hr (by omega), gcd_step c r]
      have hm : c % r < r := Nat.mod_lt _ (by omega)
      obtain ⟨w, rfl⟩ : ∃ w', w = w' + 1 := ⟨w - 1, by omega⟩
      unfold F10_divisor_b17
      by_cases h1 : c % r = 0
      · rw [h1, if_pos (by exact cmp_eq 0), Nat.gcd_zero_left]
        rfl
      · rw [if_neg (cmp_ne0 (by omega) (by omega)), xnzl_i6 _ (by omega) (by omega) (by omega), i6_rem hr (by omega) (by omega), gcd_step r (c % r)]
        have hh := mod_half (c := c) (r := r) (by omega) (by omega)
        have hp : 2 ^ (n + 1) = 2 * 2 ^ n := by rw [Nat.pow_succ]; omega
        exact ih (c % r) (r % (c % r)) w (by omega) (by omega) (by omega) (by omega)
/-- what stands above or below, in lowest terms -/
def lowt (A B : Int) (wh : Int) : Int := (if wh = 0 then A else B).tdiv (Nat.gcd A.natAbs B.natAbs : Nat)
theorem gcd_bd {A B : Int} (hB : 0 < B) (hB2 : B < 2 ^ 62) : 0 < Nat.gcd A.natAbs B.natAbs ∧ Nat.gcd A.natAbs B.natAbs < 2 ^ 62 := by
  have h1 : 0 < B.natAbs := by omega
  have h2 := Nat.le_of_dvd h1 (Nat.gcd_dvd_right A.natAbs B.natAbs)
  have h3 := Nat.gcd_pos_of_pos_right A.natAbs h1
  omega
theorem F9_lowest_ok {z : Nat} (hz : 300 ≤ z) {A B : Int} (hA1 : -2 ^ 61 < A) (hA2 : A < 2 ^ 61) (hB : 0 < B) (hB2 : B < 2 ^ 61) {wh : Int} (hw : wh = 0 ∨ wh = 1) : F9_lowest z (i6 A) (i6 B) (i3 wh) = some (i3 (lowt A B wh)) := by
  have hg := gcd_bd (A := A) hB (by omega)
  have eA : (if 0 < i6 A then i6 A else - i6 A) = i6 ((A.natAbs : Nat) : Int) := by
    by_cases q : 0 < A
    · rw [if_pos (by rw [i6_l0, i6_lt (by omega) (by omega) (by omega) (by omega)]; exact q)]
      congr 1; omega
    · rw [if_neg (by rw [i6_l0, i6_lt (by omega) (by omega) (by omega) (by omega)]; exact q), i6_neg]
      congr 1; omega
  have eB : i6 B = i6 ((B.natAbs : Nat) : Int) := by congr 1; omega
  have h12 := F9_lowest_b12_ok (z := z) (A := i6 A) (B := i6 B) (wh := i3 wh) 62 B.natAbs A.natAbs 0 z (by omega) (by omega) (by omega) (by omega) (by omega)
  have h : F9_lowest z (i6 A) (i6 B) (i3 wh) = F9_lowest_b48 z (i6 A) (i6 B) (i3 wh) (i6 ((Nat.gcd A.natAbs B.natAbs : Nat) : Int)) := by
    unfold F9_lowest
    rw [eA]
    rw [← eB] at h12
    exact h12
  rw [h]
  unfold F9_lowest_b48 F9_lowest_b67 lowt
  rw [if_neg (cmp_ne0 hg.1 hg.2)]
  rcases hw with e | e
  · subst e
    rw [if_pos (show i3 0 = 0 from rfl), if_pos rfl, xnzl_i6 _ (by omega) (by omega) (by omega), i6_div (by omega) (by omega) (by omega) (by omega), i6_toI3]
  · subst e
    rw [if_neg (show ¬ i3 1 = 0 from n10), if_neg (by decide), xnzl_i6 _ (by omega) (by omega) (by omega), i6_div (by omega) (by omega) (by omega) (by omega), i6_toI3]
theorem F10_term_ok {z : Nat} (hz : 300 ≤ z) {A B : Int} (hA1 : -2 ^ 61 < A) (hA2 : A < 2 ^ 61) (hB : 0 < B) (hB2 : B < 2 ^ 61) {wh : Int} (hw : wh = 0 ∨ wh = 1) : F10_term z (i6 A) (i6 B) (i3 wh) = some (i3 (lowt A B wh)) := by
  have hg := gcd_bd (A := A) hB (by omega)
  have eB : i6 B = i6 ((B.natAbs : Nat) : Int) := by congr 1; omega
  have h17 := F10_divisor_b17_ok (z := z) 62 A.natAbs B.natAbs z (by omega) (by omega) (by omega) (by omega)
  rw [Nat.gcd_comm, ← eB] at h17
  have hd : F10_divisor z (i6 A) (i6 B) = some (i6 ((Nat.gcd A.natAbs B.natAbs : Nat) : Int)) := by
    unfold F10_divisor F10_divisor_b12
    by_cases q : 0 ≤ A
    · have eA : i6 A = i6 ((A.natAbs : Nat) : Int) := by congr 1; omega
      rw [if_pos]
      · rw [eA]; exact h17
      · rw [i6_l0]
        by_cases q2 : A = 0
        · rw [q2, cmp_eq]; decide
        · rw [cmp_gt (by omega) (by omega) (by omega) (by omega) (by omega)]; decide
    · have eA : - i6 A = i6 ((A.natAbs : Nat) : Int) := by rw [i6_neg]; congr 1; omega
      rw [if_neg]
      · rw [eA]; exact h17
      · rw [i6_l0, cmp_lt (by omega) (by omega) (by omega) (by omega) (by omega)]; decide
  unfold F10_term F10_term_b17 lowt
  rw [hd]
  simp only [Option.bind_some]
  rcases hw with e | e
  · subst e
    rw [if_pos (show i3 0 = 0 from rfl), if_pos rfl, xnzl_i6 _ (by omega) (by omega) (by omega), i6_div (by omega) (by omega) (by omega) (by omega), i6_toI3]
  · subst e
    rw [if_neg (show ¬ i3 1 = 0 from n10), if_neg (by decide), xnzl_i6 _ (by omega) (by omega) (by omega), i6_div (by omega) (by omega) (by omega) (by omega), i6_toI3]
/-- equal fractions have the same lowest terms -/
theorem lowt_eq {A B A' B' : Int} (hB : 0 < B) (hB' : 0 < B') (h : A * B' = A' * B) (wh : Int) : lowt A B wh = lowt A' B' wh := by
  obtain ⟨g, hg⟩ : ∃ g, g = Nat.gcd A.natAbs B.natAbs := ⟨_, rfl⟩
  obtain ⟨g', hg'⟩ : ∃ g', g' = Nat.gcd A'.natAbs B'.natAbs := ⟨_, rfl⟩
  have gp : 0 < g := by rw [hg]; exact Nat.gcd_pos_of_pos_right _ (by omega)
  have gp' : 0 < g' := by rw [hg']; exact Nat.gcd_pos_of_pos_right _ (by omega)
  obtain ⟨a, ha⟩ : g ∣ A.natAbs := by rw [hg]; exact Nat.gcd_dvd_left _ _
  obtain ⟨b, hb⟩ : g ∣ B.natAbs := by rw [hg]; exact Nat.gcd_dvd_right _ _
  obtain ⟨a', ha'⟩ : g' ∣ A'.natAbs := by rw [hg']; exact Nat.gcd_dvd_left _ _
  obtain ⟨b', hb'⟩ : g' ∣ B'.natAbs := by rw [hg']; exact Nat.gcd_dvd_right _ _
  have co : Nat.Coprime a b := by
    have : g * Nat.gcd a b = g * 1 := by rw [← Nat.gcd_mul_left, ← ha, ← hb, ← hg, Nat.mul_one]
    exact Nat.eq_of_mul_eq_mul_left gp this
  have co' : Nat.Coprime a' b' := by
    have : g' * Nat.gcd a' b' = g' * 1 := by rw [← Nat.gcd_mul_left, ← ha', ← hb', ← hg', Nat.mul_one]
    exact Nat.eq_of_mul_eq_mul_left gp' this
  have hab : A.natAbs * B'.natAbs = A'.natAbs * B.natAbs := by
    rw [← Int.natAbs_mul, ← Int.natAbs_mul, h]
  have hab2 : a * b' = a' * b := by
    rw [ha, hb', ha', hb] at hab
    have : (g * g') * (a * b') = (g * g') * (a' * b) := by
      calc (g * g') * (a * b') = g * a * (g' * b') := by simp only [Nat.mul_assoc, Nat.mul_comm, Nat.mul_left_comm]
        _ = g' * a' * (g * b) := hab
        _ = (g * g') * (a' * b) := by simp only [Nat.mul_assoc, Nat.mul_comm, Nat.mul_left_comm]
    exact Nat.eq_of_mul_eq_mul_left (Nat.mul_pos gp gp') this
  have d1 : b ∣ b' := co.symm.dvd_of_dvd_mul_left ⟨a', by rw [hab2, Nat.mul_comm]⟩
  have d2 : b' ∣ b := co'.symm.dvd_of_dvd_mul_left ⟨a, by rw [← hab2, Nat.mul_comm]⟩
  have hbpos : 0 < b := by
    rcases Nat.eq_zero_or_pos b with q | q
    · rw [q, Nat.mul_zero] at hb; omega
    · exact q
  have ebb : b = b' := Nat.dvd_antisymm d1 d2
  have eaa : a = a' := by
    rw [← ebb] at hab2
    exact Nat.eq_of_mul_eq_mul_right hbpos hab2
  unfold lowt
  rw [← hg, ← hg']
  have eBq : B.tdiv (g : Int) = b := by
    have : B = (g : Int) * (b : Int) := by
      have : (B.natAbs : Int) = ((g * b : Nat) : Int) := by rw [hb]
      push_cast at this
      omega
    rw [this, Int.mul_tdiv_cancel_left _ (by omega)]
  have eBq' : B'.tdiv (g' : Int) = b' := by
    have : B' = (g' : Int) * (b' : Int) := by
      have : (B'.natAbs : Int) = ((g' * b' : Nat) : Int) := by rw [hb']
      push_cast at this
      omega
    rw [this, Int.mul_tdiv_cancel_left _ (by omega)]
  by_cases hw : wh = 0
  · rw [if_pos hw, if_pos hw]
    -- signs agree
    have hs : (0 ≤ A ∧ 0 ≤ A') ∨ (A < 0 ∧ A' < 0) := by
      rcases Int.lt_or_le A 0 with q | q
      · right
        refine ⟨q, ?_⟩
        apply Classical.byContradiction
        intro q2
        have h1 := Int.mul_neg_of_neg_of_pos q hB'
        have h2 := Int.mul_nonneg (show 0 ≤ A' by omega) (Int.le_of_lt hB)
        omega
      · left
        refine ⟨q, ?_⟩
        apply Classical.byContradiction
        intro q2
        have h1 := Int.mul_nonneg q (Int.le_of_lt hB')
        have h2 := Int.mul_neg_of_neg_of_pos (show A' < 0 by omega) hB
        omega
    have n1 : (A.natAbs : Int) = (g : Int) * (a : Int) := by
      have : (A.natAbs : Int) = ((g * a : Nat) : Int) := by rw [ha]
      push_cast at this
      exact this
    have n2 : (A'.natAbs : Int) = (g' : Int) * (a' : Int) := by
      have : (A'.natAbs : Int) = ((g' * a' : Nat) : Int) := by rw [ha']
      push_cast at this
      exact this
    rcases hs with ⟨q, q'⟩ | ⟨q, q'⟩
    · rw [show A = (g : Int) * (a : Int) by omega, show A' = (g' : Int) * (a' : Int) by omega, Int.mul_tdiv_cancel_left _ (by omega), Int.mul_tdiv_cancel_left _ (by omega), eaa]
    · rw [show A = (g : Int) * (- (a : Int)) by rw [Int.mul_neg]; omega, show A' = (g' : Int) * (- (a' : Int)) by rw [Int.mul_neg]; omega, Int.mul_tdiv_cancel_left _ (by omega), Int.mul_tdiv_cancel_left _ (by omega), eaa]
  · rw [if_neg hw, if_neg hw, eBq, eBq', ebb]
