/-! ===== the text: tokens ===== -/
def rnn (P : Nat → Bool) : Nat → Nat → Nat
  | 0, p => p
  | d + 1, p => if P p then rnn P d (p + 1) else p
theorem rnn_ok (P : Nat → Bool) : ∀ (d p : Nat), p ≤ rnn P d p ∧ rnn P d p ≤ p + d ∧ (∀ k, p ≤ k → k < rnn P d p → P k = true) ∧ (rnn P d p < p + d → P (rnn P d p) = false) := by
  intro d
  induction d with
  | zero =>
    intro p
    have e : rnn P 0 p = p := rfl
    rw [e]
    exact ⟨Nat.le_refl _, Nat.le_refl _, fun k h1 h2 => by omega, fun h => by omega⟩
  | succ d ih =>
    intro p
    by_cases q : P p = true
    · have e : rnn P (d + 1) p = rnn P d (p + 1) := if_pos q
      obtain ⟨h1, h2, h3, h4⟩ := ih (p + 1)
      rw [e]
      refine ⟨by omega, by omega, fun k a b => ?_, fun h => h4 (by omega)⟩
      by_cases c : k = p
      · rw [c]; exact q
      · exact h3 k (by omega) b
    · have e : rnn P (d + 1) p = p := if_neg q
      rw [e]
      exact ⟨Nat.le_refl _, by omega, fun k a b => by omega, fun _ => by simpa using q⟩
theorem rnn_t {P : Nat → Bool} {n p : Nat} (hp : p < n) (h : P p = true) : p + 1 ≤ rnn P (n - p) p := by
  obtain ⟨h1, h2, h3, h4⟩ := rnn_ok P (n - p) p
  rcases Nat.lt_or_ge p (rnn P (n - p) p) with q | q
  · exact q
  · have e : rnn P (n - p) p = p := by omega
    rw [e] at h4
    rw [h4 (by omega)] at h
    exact absurd h (by decide)
theorem rnn_f {P : Nat → Bool} {n p : Nat} (h : P p = false) : rnn P (n - p) p = p := by
  obtain ⟨h1, h2, h3, h4⟩ := rnn_ok P (n - p) p
  rcases Nat.lt_or_ge p (rnn P (n - p) p) with q | q
  · rw [h3 p (Nat.le_refl _) q] at h
    exact absurd h (by decide)
  · omega
def isSp (bs : Nat → Nat) (k : Nat) : Bool := decide (bs k = 32 ∨ bs k = 10)
def isIn (bs : Nat → Nat) (lo hi k : Nat) : Bool := decide (lo ≤ bs k ∧ bs k ≤ hi)
def spc (bs : Nat → Nat) (n p : Nat) : Nat := rnn (isSp bs) (n - p) p
def ltr (bs : Nat → Nat) (n p : Nat) : Nat := rnn (isIn bs 97 122) (n - p) p
def nbr (bs : Nat → Nat) (n p : Nat) : Nat := rnn (isIn bs 48 57) (n - p) p
def tkK (bs : Nat → Nat) (n p : Nat) : Nat := if n ≤ spc bs n p then 0 else if bs (spc bs n p) = 59 then 3 else if isIn bs 97 122 (spc bs n p) then 1 else if isIn bs 48 57 (spc bs n p) then (if 5 ≤ nbr bs n (spc bs n p) - spc bs n p then 4 else 2) else 4
def tkN (bs : Nat → Nat) (n p : Nat) : Nat := if n ≤ spc bs n p then spc bs n p else if bs (spc bs n p) = 59 then spc bs n p + 1 else if isIn bs 97 122 (spc bs n p) then ltr bs n (spc bs n p) else if isIn bs 48 57 (spc bs n p) then nbr bs n (spc bs n p) else spc bs n p + 1
/-- the value of d digits from f on -/
def dvl (bs : Nat → Nat) (f : Nat) : Nat → Int
  | 0 => 0
  | d + 1 => dvl bs f d * 10 + (bs (f + d) : Int) - 48
theorem spc_bd (bs : Nat → Nat) {n p : Nat} (hp : p ≤ n) : p ≤ spc bs n p ∧ spc bs n p ≤ n := by
  obtain ⟨h1, h2, h3, h4⟩ := rnn_ok (isSp bs) (n - p) p
  unfold spc
  omega
theorem tk_facts (bs : Nat → Nat) {n p : Nat} (hp : p ≤ n) : tkK bs n p ≤ 4 ∧ spc bs n p ≤ tkN bs n p ∧ tkN bs n p ≤ n ∧ (tkK bs n p ≠ 0 → spc bs n p < tkN bs n p) ∧ (tkK bs n p = 2 → tkN bs n p ≤ spc bs n p + 4 ∧ ∀ k, spc bs n p ≤ k → k < tkN bs n p → 48 ≤ bs k ∧ bs k ≤ 57) ∧ (tkK bs n p = 1 → ∀ k, spc bs n p ≤ k → k < tkN bs n p → 97 ≤ bs k ∧ bs k ≤ 122) := by
  have hs := spc_bd bs hp
  have hl := rnn_ok (isIn bs 97 122) (n - spc bs n p) (spc bs n p)
  have hd := rnn_ok (isIn bs 48 57) (n - spc bs n p) (spc bs n p)
  have el : ltr bs n (spc bs n p) = rnn (isIn bs 97 122) (n - spc bs n p) (spc bs n p) := rfl
  have ed : nbr bs n (spc bs n p) = rnn (isIn bs 48 57) (n - spc bs n p) (spc bs n p) := rfl
  rw [← el] at hl
  rw [← ed] at hd
  unfold tkK tkN
  by_cases c0 : n ≤ spc bs n p
  · rw [if_pos c0, if_pos c0]
    exact ⟨by omega, by omega, by omega, by omega, by omega, by omega⟩
  · rw [if_neg c0, if_neg c0]
    by_cases c1 : bs (spc bs n p) = 59
    · rw [if_pos c1, if_pos c1]
      exact ⟨by omega, by omega, by omega, by omega, by omega, by omega⟩
    · rw [if_neg c1, if_neg c1]
      cases c2 : isIn bs 97 122 (spc bs n p)
      · rw [if_neg (show ¬ false = true by decide), if_neg (show ¬ false = true by decide)]
        cases c3 : isIn bs 48 57 (spc bs n p)
        · rw [if_neg (show ¬ false = true by decide), if_neg (show ¬ false = true by decide)]
          exact ⟨by omega, by omega, by omega, by omega, by omega, by omega⟩
        · rw [if_pos (show true = true from rfl), if_pos (show true = true from rfl)]
          have t1 : spc bs n p + 1 ≤ nbr bs n (spc bs n p) := rnn_t (by omega) c3
          by_cases c4 : 5 ≤ nbr bs n (spc bs n p) - spc bs n p
          · rw [if_pos c4]
            exact ⟨by omega, by omega, by omega, by omega, by omega, by omega⟩
          · rw [if_neg c4]
            refine ⟨by omega, by omega, by omega, by omega, fun _ => ⟨by omega, fun k a b => ?_⟩, by omega⟩
            have := hd.2.2.1 k a b
            exact of_decide_eq_true this
      · rw [if_pos (show true = true from rfl), if_pos (show true = true from rfl)]
        have t1 : spc bs n p + 1 ≤ ltr bs n (spc bs n p) := rnn_t (by omega) c2
        refine ⟨by omega, by omega, by omega, by omega, by omega, fun _ k a b => ?_⟩
        have := hl.2.2.1 k a b
        exact of_decide_eq_true this
theorem dvl_bd {bs : Nat → Nat} {f : Nat} : ∀ (d : Nat), d ≤ 4 → (∀ k, f ≤ k → k < f + d → 48 ≤ bs k ∧ bs k ≤ 57) → 0 ≤ dvl bs f d ∧ dvl bs f d ≤ 9999 := by
  have go : ∀ d, (∀ k, f ≤ k → k < f + d → 48 ≤ bs k ∧ bs k ≤ 57) → 0 ≤ dvl bs f d ∧ (d = 0 → dvl bs f d ≤ 0) ∧ (d = 1 → dvl bs f d ≤ 9) ∧ (d = 2 → dvl bs f d ≤ 99) ∧ (d = 3 → dvl bs f d ≤ 999) ∧ (d = 4 → dvl bs f d ≤ 9999) := by
    intro d
    induction d with
    | zero => intro _; exact ⟨Int.le_refl _, fun _ => Int.le_refl _, by omega, by omega, by omega, by omega⟩
    | succ d ih =>
      intro h
      have i := ih (fun k a b => h k a (by omega))
      have b := h (f + d) (by omega) (by omega)
      have e : dvl bs f (d + 1) = dvl bs f d * 10 + (bs (f + d) : Int) - 48 := rfl
      omega
  intro d hd h
  have := go d h
  omega
/-- the tape, as both hold it -/
def TB (n : Nat) (bs : Nat → Nat) (bytes tape : Nat → Int32) : Prop := n ≤ 300 ∧ ∀ k, k < n → bs k < 256 ∧ bytes k = i3 (bs k : Nat) ∧ tape k &&& 255 = i3 (bs k : Nat)
theorem skip_ok {z n : Nat} (hz : 1000 ≤ z) {bs : Nat → Nat} {bytes tape : Nat → Int32} (hB : TB n bs bytes tape) (lo hi f : Nat) (hlo : lo < 1000) (hhi : hi < 1000) (hf : f ≤ n) : ∀ (d w p : Nat), p + d = n → d < w → F7_skip_b0 z w (i3 lo) (i3 hi) bytes (i3 f) (i3 p) (i3 n) = some ((if rnn (isIn bs lo hi) d p ≤ f then 0 else 1), i3 (rnn (isIn bs lo hi) d p : Nat)) := by
  have h3 := hB.1
  have fin : ∀ q, q ≤ n → F7_skip_b50 z bytes (i3 f) (i3 q) (i3 n) = some ((if q ≤ f then 0 else 1), i3 (q : Nat)) := by
    intro q hq
    unfold F7_skip_b50
    by_cases c : q ≤ f
    · rw [if_pos c, if_pos (show i3 (q : Int) ≤ i3 (f : Int) by rw [i3_le (by omega) (by omega) (by omega) (by omega)]; omega)]
    · rw [if_neg c, if_neg (show ¬ i3 (q : Int) ≤ i3 (f : Int) by rw [i3_le (by omega) (by omega) (by omega) (by omega)]; omega)]
  intro d
  induction d with
  | zero =>
    intro w p hp hw
    obtain ⟨w, rfl⟩ : ∃ w', w = w' + 1 := ⟨w - 1, by omega⟩
    unfold F7_skip_b0
    rw [if_pos (by rw [i3_le (by omega) (by omega) (by omega) (by omega)]; omega)]
    exact fin p (by omega)
  | succ d ih =>
    intro w p hp hw
    obtain ⟨w, rfl⟩ : ∃ w', w = w' + 1 := ⟨w - 1, by omega⟩
    obtain ⟨b1, b2, b3⟩ := hB.2 p (by omega)
    unfold F7_skip_b0
    rw [if_neg (show ¬ i3 (n : Int) ≤ i3 (p : Int) by rw [i3_le (by omega) (by omega) (by omega) (by omega)]; omega)]
    simp (disch := omega) only [xg_in, i3_xnN]
    rw [b2, show i3 (p : Int) + 1 = i3 ((p + 1 : Nat) : Int) from by rw [i3_l1, i3_add]; rfl]
    by_cases c1 : bs p < lo
    · have e : rnn (isIn bs lo hi) (d + 1) p = p := if_neg (by unfold isIn; rw [decide_eq_true_iff]; omega)
      rw [if_pos (show i3 (bs p : Int) < i3 (lo : Int) by rw [i3_lt (by omega) (by omega) (by omega) (by omega)]; omega), e]
      exact fin p (by omega)
    · rw [if_neg (show ¬ i3 (bs p : Int) < i3 (lo : Int) by rw [i3_lt (by omega) (by omega) (by omega) (by omega)]; omega)]
      by_cases c2 : hi < bs p
      · have e : rnn (isIn bs lo hi) (d + 1) p = p := if_neg (by unfold isIn; rw [decide_eq_true_iff]; omega)
        rw [if_pos (show i3 (hi : Int) < i3 (bs p : Int) by rw [i3_lt (by omega) (by omega) (by omega) (by omega)]; omega), e]
        exact fin p (by omega)
      · have e : rnn (isIn bs lo hi) (d + 1) p = rnn (isIn bs lo hi) d (p + 1) := if_pos (by unfold isIn; rw [decide_eq_true_iff]; omega)
        rw [if_neg (show ¬ i3 (hi : Int) < i3 (bs p : Int) by rw [i3_lt (by omega) (by omega) (by omega) (by omega)]; omega), e]
        exact ih w (p + 1) (by omega) (by omega)
theorem step_ok {z n : Nat} (hz : 1000 ≤ z) {bs : Nat → Nat} {bytes tape : Nat → Int32} (hB : TB n bs bytes tape) {p : Nat} (hp : p ≤ n) (kind from' : Int32) : ∃ nb, F7_step z bytes kind from' (i3 p) (i3 n) = some (i3 (tkK bs n p : Nat), i3 (spc bs n p : Nat), nb) ∧ (tkK bs n p ≠ 4 → nb = i3 (tkN bs n p : Nat)) := by
  have h3 := hB.1
  have loop : ∀ (d w p : Nat) (bh : Int32), p + d = n → d < w → F7_step_b8 z w bytes kind (i3 p) bh (i3 n) = F7_step_b60 z bytes kind (i3 (rnn (isSp bs) d p : Nat)) bh (i3 n) := by
    intro d
    induction d with
    | zero =>
      intro w p bh hp hw
      obtain ⟨w, rfl⟩ : ∃ w', w = w' + 1 := ⟨w - 1, by omega⟩
      unfold F7_step_b8
      rw [if_pos (by rw [i3_le (by omega) (by omega) (by omega) (by omega)]; omega)]
      rfl
    | succ d ih =>
      intro w p bh hp hw
      obtain ⟨w, rfl⟩ : ∃ w', w = w' + 1 := ⟨w - 1, by omega⟩
      obtain ⟨b1, b2, b3⟩ := hB.2 p (by omega)
      unfold F7_step_b8 F7_step_b47
      rw [if_neg (show ¬ i3 (n : Int) ≤ i3 (p : Int) by rw [i3_le (by omega) (by omega) (by omega) (by omega)]; omega)]
      simp (disch := omega) only [xg_in, i3_xnN]
      rw [b2, show i3 (p : Int) + 1 = i3 ((p + 1 : Nat) : Int) from by rw [i3_l1, i3_add]; rfl]
      by_cases c1 : bs p = 32
      · have e : rnn (isSp bs) (d + 1) p = rnn (isSp bs) d (p + 1) := if_pos (by unfold isSp; rw [decide_eq_true_iff]; omega)
        rw [if_pos (show i3 (bs p : Int) = 32 by rw [c1]; rfl), e]
        exact ih w (p + 1) bh (by omega) (by omega)
      · rw [if_neg (show ¬ i3 (bs p : Int) = 32 by rw [show (32 : Int32) = i3 32 from rfl, i3_eq (by omega) (by omega) (by omega) (by omega)]; omega)]
        by_cases c2 : bs p = 10
        · have e : rnn (isSp bs) (d + 1) p = rnn (isSp bs) d (p + 1) := if_pos (by unfold isSp; rw [decide_eq_true_iff]; omega)
          rw [if_pos (show i3 (bs p : Int) = 10 by rw [c2]; rfl), e]
          exact ih w (p + 1) bh (by omega) (by omega)
        · have e : rnn (isSp bs) (d + 1) p = p := if_neg (by unfold isSp; rw [decide_eq_true_iff]; omega)
          rw [if_neg (show ¬ i3 (bs p : Int) = 10 by rw [i3_l10, i3_eq (by omega) (by omega) (by omega) (by omega)]; omega), e]
  have hs := spc_bd bs hp
  have hl := rnn_ok (isIn bs 97 122) (n - spc bs n p) (spc bs n p)
  have hd := rnn_ok (isIn bs 48 57) (n - spc bs n p) (spc bs n p)
  unfold F7_step
  rw [loop (n - p) z p (i3 p) (by omega) (by omega)]
  show ∃ nb, F7_step_b60 z bytes kind (i3 (spc bs n p : Nat)) (i3 p) (i3 n) = _ ∧ _
  unfold F7_step_b60 F7_step_b168 F7_skip tkK tkN
  by_cases c0 : n ≤ spc bs n p
  · rw [if_neg (show ¬ i3 (spc bs n p : Nat) < i3 (n : Int) by rw [i3_lt (by omega) (by omega) (by omega) (by omega)]; omega), if_pos c0, if_pos c0]
    exact ⟨_, rfl, fun _ => rfl⟩
  · obtain ⟨b1, b2, b3⟩ := hB.2 (spc bs n p) (by omega)
    rw [if_pos (show i3 (spc bs n p : Nat) < i3 (n : Int) by rw [i3_lt (by omega) (by omega) (by omega) (by omega)]; omega), if_neg c0, if_neg c0]
    simp (disch := omega) only [xg_in, i3_xnN]
    rw [b2]
    by_cases c1 : bs (spc bs n p) = 59
    · rw [if_pos (show i3 (bs (spc bs n p) : Int) = 59 by rw [c1]; rfl), if_pos c1, if_pos c1, show i3 (spc bs n p : Nat) + 1 = i3 ((spc bs n p + 1 : Nat) : Int) from by rw [i3_l1, i3_add]; rfl]
      exact ⟨_, rfl, fun _ => rfl⟩
    · have sl : F7_skip_b0 z z 97 122 bytes (i3 (spc bs n p : Nat)) (i3 (spc bs n p : Nat)) (i3 n) = _ := skip_ok hz hB 97 122 (spc bs n p) (by omega) (by omega) hs.2 (n - spc bs n p) z (spc bs n p) (by omega) (by omega)
      rw [if_neg (show ¬ i3 (bs (spc bs n p) : Int) = 59 by rw [show (59 : Int32) = i3 59 from rfl, i3_eq (by omega) (by omega) (by omega) (by omega)]; omega), if_neg c1, if_neg c1, sl]
      simp only [Option.bind_some]
      cases c2 : isIn bs 97 122 (spc bs n p)
      · rw [rnn_f (n := n) c2, if_pos (Nat.le_refl _), if_pos rfl, if_neg (show ¬ false = true by decide), if_neg (show ¬ false = true by decide)]
        have sd : F7_skip_b0 z z 48 57 bytes (i3 (spc bs n p : Nat)) (i3 (spc bs n p : Nat)) (i3 n) = _ := skip_ok hz hB 48 57 (spc bs n p) (by omega) (by omega) hs.2 (n - spc bs n p) z (spc bs n p) (by omega) (by omega)
        rw [sd]
        simp only [Option.bind_some]
        cases c3 : isIn bs 48 57 (spc bs n p)
        · rw [rnn_f (n := n) c3, if_pos (Nat.le_refl _), if_pos rfl, if_neg (show ¬ false = true by decide), if_neg (show ¬ false = true by decide)]
          exact ⟨_, rfl, fun h => absurd rfl h⟩
        · have t1 := rnn_t (P := isIn bs 48 57) (n := n) (p := spc bs n p) (by omega) c3
          rw [if_neg (show ¬ rnn (isIn bs 48 57) (n - spc bs n p) (spc bs n p) ≤ spc bs n p by omega), if_neg n10, if_pos (show true = true from rfl), if_pos (show true = true from rfl), i3_sub, i3_l4]
          unfold nbr
          by_cases c4 : 5 ≤ rnn (isIn bs 48 57) (n - spc bs n p) (spc bs n p) - spc bs n p
          · rw [if_pos (show i3 4 < i3 _ by rw [i3_lt (by omega) (by omega) (by omega) (by omega)]; omega), if_pos c4]
            exact ⟨_, rfl, fun h => absurd rfl h⟩
          · rw [if_neg (show ¬ i3 4 < i3 _ by rw [i3_lt (by omega) (by omega) (by omega) (by omega)]; omega), if_neg c4]
            exact ⟨_, rfl, fun _ => rfl⟩
      · have t1 := rnn_t (P := isIn bs 97 122) (n := n) (p := spc bs n p) (by omega) c2
        rw [if_neg (show ¬ rnn (isIn bs 97 122) (n - spc bs n p) (spc bs n p) ≤ spc bs n p by omega), if_neg n10, if_pos (show true = true from rfl), if_pos (show true = true from rfl)]
        exact ⟨_, rfl, fun _ => rfl⟩
