/-! ===== the reference's corners ===== -/
theorem F10_with_b2_ok {z N : Nat} {c : Int32} {S : Nat → Int64} : ∀ (rem w k : Nat) (M : Nat → Int64), k + rem = 64 → rem < w → (∀ a, a < k → M a = S a) → ∃ M', F10_with_b2 z w (i3 N) c (i3 k) M S = F10_with_b26 z (i3 N) c M' S ∧ ∀ a, a < 64 → M' a = S a := by
  intro rem
  induction rem with
  | zero =>
    intro w k M hk hw hM
    obtain ⟨w, rfl⟩ : ∃ w', w = w' + 1 := ⟨w - 1, by omega⟩
    refine ⟨M, ?_, fun a ha => hM a (by omega)⟩
    unfold F10_with_b2
    rw [if_pos (by rw [i3_l64, i3_le (by omega) (by omega) (by omega) (by omega)]; omega)]
  | succ rem ih =>
    intro w k M hk hw hM
    obtain ⟨w, rfl⟩ : ∃ w', w = w' + 1 := ⟨w - 1, by omega⟩
    unfold F10_with_b2
    rw [if_neg (by rw [i3_l64, i3_le (by omega) (by omega) (by omega) (by omega)]; omega)]
    simp (disch := omega) only [xg_in, i3_xnN]
    rw [i3_l1, i3_add]
    exact ih w (k + 1) _ (by omega) (by omega) (fun a ha => by
      rw [vpL_at]
      by_cases q : a = k
      · rw [if_pos q, q]
      · rw [if_neg q]; exact hM a (by omega))
theorem F10_with_b32_ok {z N c : Nat} (hN : N < 8) (hc : c < N) {S : Nat → Int64} : ∀ (rem w k : Nat) (M : Nat → Int64), k + rem = N → rem < w → ∃ M', F10_with_b32 z w (i3 N) (i3 c) (i3 k) M S = F10_with_b66 z (i3 N) M' S ∧ ∀ a b, a < N → b < N → M' (8 * a + b) = if b = c ∧ k ≤ a then i6 (ek (N - 1) a) else M (8 * a + b) := by
  intro rem
  induction rem with
  | zero =>
    intro w k M hk hw
    obtain ⟨w, rfl⟩ : ∃ w', w = w' + 1 := ⟨w - 1, by omega⟩
    refine ⟨M, ?_, fun a b ha hb => by rw [if_neg (by omega)]⟩
    unfold F10_with_b32
    rw [if_pos (by rw [i3_le (by omega) (by omega) (by omega) (by omega)]; omega)]
  | succ rem ih =>
    intro w k M hk hw
    obtain ⟨w, rfl⟩ : ∃ w', w = w' + 1 := ⟨w - 1, by omega⟩
    have hcc : ((k : Nat) : Int) + 1 = ((k + 1 : Nat) : Int) := by omega
    have key : ∀ x : Int, x = ek (N - 1) k → ∃ M', F10_with_b59 z (i3 N) (i3 c) (i3 k) (i3 ((8 * k + c : Nat) : Int)) (i6 x) M S (fun q0 q1 q2 q3 q4 => F10_with_b32 z w q0 q1 q2 q3 q4) = F10_with_b66 z (i3 N) M' S ∧ ∀ a b, a < N → b < N → M' (8 * a + b) = if b = c ∧ k ≤ a then i6 (ek (N - 1) a) else M (8 * a + b) := fun x hx => by
      unfold F10_with_b59
      simp (disch := omega) only [xg_in, i3_xnN]
      rw [i3_l1, i3_add, hcc]
      obtain ⟨M', e, h⟩ := ih w (k + 1) (vp_updL M (8 * k + c) (i6 x)) (by omega) (by omega)
      refine ⟨M', e, fun a b ha hb => ?_⟩
      rw [h a b ha hb, vpL_at]
      by_cases q : b = c ∧ k + 1 ≤ a
      · rw [if_pos q, if_pos (by omega)]
      · rw [if_neg q]
        by_cases q2 : a = k ∧ b = c
        · rw [if_pos (by omega), if_pos (by omega), hx, q2.1]
        · rw [if_neg (by omega), if_neg (by omega)]
    unfold F10_with_b32
    rw [if_neg (by rw [i3_le (by omega) (by omega) (by omega) (by omega)]; omega), i3_8]
    by_cases q : k = N - 1
    · rw [if_pos (by rw [i3_l1, i3_sub]; congr 1; omega)]
      exact key 1 (by unfold ek; rw [if_pos q])
    · rw [if_neg (by rw [i3_l1, i3_sub, i3_eq (by omega) (by omega) (by omega) (by omega)]; omega)]
      exact key 0 (by unfold ek; rw [if_neg q])
theorem ek_bw {N : Nat} (hN1 : 1 ≤ N) (q : Nat) : - bw N q ≤ ek (N - 1) q ∧ ek (N - 1) q ≤ bw N q := by
  unfold ek bw
  split <;> split <;> omega
theorem F10_with_ok {z N : Nat} (hz : 100 ≤ z) (hN : N < 8) (hN1 : 1 ≤ N) {W : Nat → Nat → Int} (hW : ∀ i q, i < N → q < N → - bw N q ≤ W i q ∧ W i q ≤ bw N q) {S : Nat → Int64} (hS : ∀ a b, a < N → b < N → S (8 * a + b) = i6 (W b a)) (M : Nat → Int64) : (∃ M', F10_with z (i3 N) (i3 (-1)) M S = some (i6 (dt N W), M')) ∧ (∀ c, c < N → ∃ M', F10_with z (i3 N) (i3 c) M S = some (i6 (dt N (st W c (ek (N - 1)))), M')) := by
  constructor
  · unfold F10_with
    obtain ⟨M1, e1, h1⟩ := F10_with_b2_ok (z := z) (N := N) (c := i3 (-1)) (S := S) 64 z 0 M (by omega) (by omega) (fun a ha => by omega)
    obtain ⟨M2, e2⟩ := F10_determinant_ok (show 10 ≤ z by omega) hN hN1 hW (M := M1) (fun a b ha hb => by rw [h1 _ (by omega), hS a b ha hb])
    refine ⟨M2, ?_⟩
    rw [show (0 : Int32) = i3 ((0 : Nat) : Int) from rfl, e1]
    unfold F10_with_b26 F10_with_b66
    rw [if_pos (by decide), e2]
    rfl
  · intro c hc
    unfold F10_with
    obtain ⟨M1, e1, h1⟩ := F10_with_b2_ok (z := z) (N := N) (c := i3 c) (S := S) 64 z 0 M (by omega) (by omega) (fun a ha => by omega)
    obtain ⟨M3, e3, h3⟩ := F10_with_b32_ok (z := z) hN hc (S := S) N z 0 M1 (by omega) (by omega)
    obtain ⟨M2, e2⟩ := F10_determinant_ok (show 10 ≤ z by omega) hN hN1 (W := st W c (ek (N - 1))) (fun i q hi hq => by
      unfold st
      split
      · exact ek_bw hN1 q
      · exact hW i q hi hq) (M := M3) (fun a b ha hb => by
      rw [h3 a b ha hb]
      unfold st
      by_cases q : b = c
      · rw [if_pos (by omega), if_pos q]
      · rw [if_neg (by omega), if_neg q, h1 _ (by omega), hS a b ha hb])
    refine ⟨M2, ?_⟩
    rw [show (0 : Int32) = i3 ((0 : Nat) : Int) from rfl, e1]
    unfold F10_with_b26
    rw [if_neg (by rw [i3_l0, i3_lt (by omega) (by omega) (by omega) (by omega)]; omega), show (0 : Int32) = i3 ((0 : Nat) : Int) from rfl, e3]
    unfold F10_with_b66
    rw [e2]
    rfl
/-! ===== sets of rows and columns ===== -/
theorem chk_has : (List.range 64).all (fun a => (List.range 8).all (fun k => decide (((i3 (a : Nat) >>> (i3 (k : Nat) &&& 31)) &&& 1 = 1) ↔ a.testBit k = true))) = true := by decide +kernel
theorem F10_has_ok {a k : Nat} (ha : a < 64) (hk : k < 8) : F10_has (i3 a) (i3 k) = some (if a.testBit k then 1 else 0) := by
  have h1 := List.all_eq_true.mp chk_has a (List.mem_range.mpr ha)
  have h2 := List.all_eq_true.mp h1 k (List.mem_range.mpr hk)
  have h3 := of_decide_eq_true h2
  unfold F10_has
  by_cases q : a.testBit k = true
  · rw [if_pos (h3.mpr q), if_pos q]
  · rw [if_neg (fun e => q (h3.mp e)), if_neg q]
/-- how many of those below have a thing -/
def cf (p : Nat → Bool) : Nat → Nat
  | 0 => 0
  | i + 1 => cf p i + (if p i then 1 else 0)
/-- the c-th that has it -/
def gt (p : Nat → Bool) : Nat → Nat → Nat
  | 0, _ => 0
  | i + 1, c => if p i ∧ cf p i = c then i else gt p i c
theorem cf_mono {p : Nat → Bool} {i j : Nat} (h : i ≤ j) : cf p i ≤ cf p j := by
  induction j with
  | zero => have : i = 0 := by omega
            subst this; exact Nat.le_refl _
  | succ j ih =>
    by_cases e : i = j + 1
    · rw [e]; exact Nat.le_refl _
    · have := ih (by omega)
      show cf p i ≤ cf p j + (if p j then 1 else 0)
      omega
theorem gt_at {p : Nat → Bool} : ∀ {n i : Nat}, i < n → p i = true → gt p n (cf p i) = i
  | 0, i, h, _ => by omega
  | n + 1, i, h, hp => by
    show (if p n ∧ cf p n = cf p i then n else gt p n (cf p i)) = i
    by_cases e : i = n
    · subst e; rw [if_pos ⟨hp, rfl⟩]
    · have h1 : cf p (i + 1) ≤ cf p n := cf_mono (by omega)
      have h2 : cf p (i + 1) = cf p i + 1 := by show cf p i + (if p i then 1 else 0) = _; rw [if_pos hp]
      rw [if_neg (by omega)]
      exact gt_at (by omega) hp
theorem gt_ex {p : Nat → Bool} : ∀ {n c : Nat}, c < cf p n → gt p n c < n ∧ p (gt p n c) = true ∧ cf p (gt p n c) = c
  | 0, c, h => by have : cf p 0 = 0 := rfl
                  omega
  | n + 1, c, h => by
    have h' : c < cf p n + (if p n then 1 else 0) := h
    show (if p n ∧ cf p n = c then n else gt p n c) < n + 1 ∧ p (if p n ∧ cf p n = c then n else gt p n c) = true ∧ cf p (if p n ∧ cf p n = c then n else gt p n c) = c
    by_cases e : p n = true ∧ cf p n = c
    · rw [if_pos e]; exact ⟨by omega, e.1, e.2⟩
    · rw [if_neg e]
      have h2 : c < cf p n := by
        by_cases q : p n = true
        · rw [if_pos q] at h'
          have : cf p n ≠ c := fun q2 => e ⟨q, q2⟩
          omega
        · rw [if_neg q] at h'; omega
      obtain ⟨h3, h4, h5⟩ := gt_ex h2
      exact ⟨by omega, h4, h5⟩
theorem cf_le (p : Nat → Bool) (n : Nat) : cf p n ≤ n := by
  induction n with
  | zero => exact Nat.le_refl _
  | succ n ih => show cf p n + (if p n then 1 else 0) ≤ n + 1; split <;> omega
theorem chk_and : (List.range 64).all (fun s => decide ((i3 (s : Nat) &&& (i3 (s : Nat) - 1)) = i3 ((s &&& (s - 1)) : Nat)) && decide (s = 0 ∨ (cf (fun k => s.testBit k) 6 = cf (fun k => (s &&& (s - 1)).testBit k) 6 + 1 ∧ (s &&& (s - 1)) < 64)) && decide (s ≠ 0 ∨ cf (fun k => s.testBit k) 6 = 0)) = true := by decide +kernel
theorem F10_bits_b4_ok {z : Nat} : ∀ (p w s a : Nat), s < 64 → cf (fun k => s.testBit k) 6 = p → p < w → F10_bits_b4 z w (i3 a) (i3 s) = some (i3 ((a + p : Nat) : Int))
  | 0, w, s, a, hs, hp, hw => by
    obtain ⟨w, rfl⟩ : ∃ w', w = w' + 1 := ⟨w - 1, by omega⟩
    have h1 := List.all_eq_true.mp chk_and s (List.mem_range.mpr hs)
    simp only [Bool.and_eq_true, decide_eq_true_eq] at h1
    have e : s = 0 := by
      rcases h1.1.2 with q | q
      · exact q
      · omega
    subst e
    unfold F10_bits_b4
    rw [if_pos (show i3 ((0 : Nat) : Int) = 0 from rfl)]
    rfl
  | p + 1, w, s, a, hs, hp, hw => by
    obtain ⟨w, rfl⟩ : ∃ w', w = w' + 1 := ⟨w - 1, by omega⟩
    have h1 := List.all_eq_true.mp chk_and s (List.mem_range.mpr hs)
    simp only [Bool.and_eq_true, decide_eq_true_eq] at h1
    have e : s ≠ 0 := by
      rcases h1.2 with q | q
      · exact q
      · omega
    have h2 : cf (fun k => s.testBit k) 6 = cf (fun k => (s &&& (s - 1)).testBit k) 6 + 1 ∧ (s &&& (s - 1)) < 64 := by
      rcases h1.1.2 with q | q
      · exact absurd q e
      · exact q
    unfold F10_bits_b4
    rw [if_neg (by rw [i3_l0, i3_eq (by omega) (by omega) (by omega) (by omega)]; omega), h1.1.1, i3_l1, i3_add]
    have := F10_bits_b4_ok (z := z) p w (s &&& (s - 1)) (a + 1) h2.2 (by omega) (by omega)
    rw [show ((a : Nat) : Int) + 1 = ((a + 1 : Nat) : Int) by omega, this, show a + 1 + p = a + (p + 1) by omega]
theorem chk_cf6 : (List.range 7).all (fun n => (List.range 64).all (fun s => decide (2 ^ n ≤ s ∨ cf (fun k => s.testBit k) n = cf (fun k => s.testBit k) 6))) = true := by decide +kernel
theorem F10_bits_ok {z n s : Nat} (hz : 10 ≤ z) (hn : n < 7) (hs : s < 2 ^ n) : F10_bits z (i3 s) = some (i3 (cf (fun k => s.testBit k) n : Nat)) := by
  have h64 : s < 64 := by
    have : 2 ^ n ≤ 2 ^ 6 := Nat.pow_le_pow_right (by decide) (by omega)
    omega
  have h1 := List.all_eq_true.mp chk_cf6 n (List.mem_range.mpr hn)
  have h2 := of_decide_eq_true (List.all_eq_true.mp h1 s (List.mem_range.mpr h64))
  have h3 : cf (fun k => s.testBit k) n = cf (fun k => s.testBit k) 6 := by
    rcases h2 with q | q
    · omega
    · exact q
  have h4 := cf_le (fun k => s.testBit k) 6
  have := F10_bits_b4_ok (z := z) (cf (fun k => s.testBit k) 6) z s 0 h64 rfl (by omega)
  rw [Nat.zero_add] at this
  rw [h3]
  exact this
/-- what is known of a game laid for the reference -/
def GM (m n : Nat) (g : Nat → Nat → Int) (game : Nat → Int32) : Prop := 0 < m ∧ m < 7 ∧ 0 < n ∧ n < 7 ∧ (∀ r c, r < m → c < n → -8 ≤ g r c ∧ g r c ≤ 8) ∧ ∀ i j, i < n → j < m → game (8 * i + j) = i3 (g j i)
theorem F10_isLawful_b60_ok {z m n : Nat} {g : Nat → Nat → Int} {game : Nat → Int32} (hG : GM m n g game) {f : Nat → Int} {share : Nat → Int64} (hsh : ∀ i, i < n → share i = i6 (f (i + 1))) (hfb : ∀ t, t < n + 1 → -1462763520 ≤ f t ∧ f t ≤ 1462763520) {j : Nat} (hj : j < m) {x3 : Int32} (k45 : Int64 → Int32 → Int32 → (Nat → Int32) → Int32 → Int32 → (Nat → Int64) → Option Int32) : ∀ (rem w i : Nat), i + rem = n → rem < w → F10_isLawful_b60 z w (i6 (f 0)) x3 (i3 j) (i6 (sm i (fun i => f (i + 1) * g j i))) (i3 i) game (i3 n) (i3 m) share k45 = F10_isLawful_b102 z (i6 (f 0)) x3 (i3 j) (i6 (sm n (fun i => f (i + 1) * g j i))) game (i3 n) (i3 m) share k45 := by
  obtain ⟨hm0, hm, hn0, hn, hg, hgm⟩ := hG
  intro rem
  induction rem with
  | zero =>
    intro w i hi hw
    obtain ⟨w, rfl⟩ : ∃ w', w = w' + 1 := ⟨w - 1, by omega⟩
    have e : i = n := by omega
    subst e
    unfold F10_isLawful_b60
    rw [if_pos (by rw [i3_le (by omega) (by omega) (by omega) (by omega)]; omega)]
  | succ rem ih =>
    intro w i hi hw
    obtain ⟨w, rfl⟩ : ∃ w', w = w' + 1 := ⟨w - 1, by omega⟩
    have hb := hg j i hj (by omega)
    unfold F10_isLawful_b60
    rw [if_neg (by rw [i3_le (by omega) (by omega) (by omega) (by omega)]; omega), i3_8]
    simp (disch := omega) only [xg_in, i3_xnN]
    rw [hsh i (by omega), hgm i j (by omega) hj, i3_toI6 (by omega) (by omega), i6_mul, i6_add, i3_l1, i3_add]
    exact ih w (i + 1) (by omega) (by omega)
theorem sumb {n : Nat} {f : Nat → Int} {h : Nat → Int} (hn : n < 7) (hfb : ∀ t, t < n + 1 → -1462763520 ≤ f t ∧ f t ≤ 1462763520) (hg : ∀ i, i < n → -8 ≤ h i ∧ h i ≤ 8) : -100000000000 ≤ sm n (fun i => f (i + 1) * h i) ∧ sm n (fun i => f (i + 1) * h i) ≤ 100000000000 := by
  have := sm_abs_le (n := n) (f := fun i => f (i + 1) * h i) (g := fun _ => 11702108160) (fun i hi => by
    have h1 := hfb (i + 1) (by omega)
    have h2 := hg i hi
    have := abs_mul h1.1 h1.2 h2.1 h2.2
    omega)
  rw [sm_const] at this
  have h3 : (n : Int) * 11702108160 ≤ 6 * 11702108160 := Int.mul_le_mul_of_nonneg_right (by omega) (by decide)
  omega
theorem F10_isLawful_b45_ok {z m n : Nat} (hz : 10 ≤ z) {g : Nat → Nat → Int} {game : Nat → Int32} (hG : GM m n g game) {f : Nat → Int} {share : Nat → Int64} (hsh : ∀ i, i < n → share i = i6 (f (i + 1))) (hfb : ∀ t, t < n + 1 → -1462763520 ≤ f t ∧ f t ≤ 1462763520) (Q : Prop) : ∀ (rem w j : Nat) (x : Int), j + rem = m → rem < w → ((x = 1 ∧ Q ∧ ∀ j', j' < j → f 0 ≤ sm n (fun i => f (i + 1) * g j' i)) ∨ (x = 0 ∧ ¬ (Q ∧ ∀ j', j' < j → f 0 ≤ sm n (fun i => f (i + 1) * g j' i)))) → ∃ y : Int, F10_isLawful_b45 z w (i6 (f 0)) (i3 x) (i3 j) game (i3 n) (i3 m) share = some (i3 y) ∧ ((y = 1 ∧ Q ∧ ∀ j', j' < m → f 0 ≤ sm n (fun i => f (i + 1) * g j' i)) ∨ (y = 0 ∧ ¬ (Q ∧ ∀ j', j' < m → f 0 ≤ sm n (fun i => f (i + 1) * g j' i)))) := by
  have hG' := hG
  obtain ⟨hm0, hm, hn0, hn, hg, hgm⟩ := hG'
  intro rem
  induction rem with
  | zero =>
    intro w j x hj hw h
    obtain ⟨w, rfl⟩ : ∃ w', w = w' + 1 := ⟨w - 1, by omega⟩
    have e : j = m := by omega
    subst e
    refine ⟨x, ?_, h⟩
    unfold F10_isLawful_b45
    rw [if_pos (by rw [i3_le (by omega) (by omega) (by omega) (by omega)]; omega), xg_bo _ (by omega)]
  | succ rem ih =>
    intro w j x hj hw h
    obtain ⟨w, rfl⟩ : ∃ w', w = w' + 1 := ⟨w - 1, by omega⟩
    have hcc : ((j : Nat) : Int) + 1 = ((j + 1 : Nat) : Int) := by omega
    unfold F10_isLawful_b45
    rw [if_neg (by rw [i3_le (by omega) (by omega) (by omega) (by omega)]; omega)]
    have e60 := F10_isLawful_b60_ok (z := z) hG hsh hfb (show j < m by omega) (x3 := i3 x) (fun q0 q1 q2 q3 q4 q5 q6 => F10_isLawful_b45 z w q0 q1 q2 q3 q4 q5 q6) n z 0 (by omega) (by omega)
    have e60' : F10_isLawful_b60 z z (i6 (f 0)) (i3 x) (i3 j) (0 : Int64) (0 : Int32) game (i3 n) (i3 m) share (fun q0 q1 q2 q3 q4 q5 q6 => F10_isLawful_b45 z w q0 q1 q2 q3 q4 q5 q6) = _ := e60
    rw [e60']
    have hb := sumb (h := fun i => g j i) hn hfb (fun i hi => hg j i (by omega) hi)
    have hf0 := hfb 0 (by omega)
    unfold F10_isLawful_b102 F10_isLawful_b118
    rcases h with ⟨e, h1, h2⟩ | ⟨e, h1⟩
    · subst e
      rw [if_neg (by decide)]
      by_cases q : sm n (fun i => f (i + 1) * g j i) < f 0
      · rw [cmp_lt (by omega) (by omega) (by omega) (by omega) q, if_pos (by decide), i3_l1, i3_add, hcc]
        refine ih w (j + 1) 0 (by omega) (by omega) (Or.inr ⟨rfl, fun q2 => ?_⟩)
        have := q2.2 j (by omega)
        omega
      · have hnl : ¬ lg_cmp (i6 (sm n (fun i => f (i + 1) * g j i))) (i6 (f 0)) < 0 := by
          by_cases q2 : sm n (fun i => f (i + 1) * g j i) = f 0
          · rw [q2, cmp_eq]; decide
          · rw [cmp_gt (by omega) (by omega) (by omega) (by omega) (by omega)]; decide
        rw [if_neg hnl, i3_l1, i3_add, hcc]
        refine ih w (j + 1) 1 (by omega) (by omega) (Or.inl ⟨rfl, h1, fun j' hj' => ?_⟩)
        by_cases q2 : j' = j
        · rw [q2]; omega
        · exact h2 j' (by omega)
    · subst e
      rw [if_pos (show i3 0 = 0 from rfl), i3_l1, i3_add, hcc]
      refine ih w (j + 1) 0 (by omega) (by omega) (Or.inr ⟨rfl, fun q2 => h1 ⟨q2.1, fun j' hj' => q2.2 j' (by omega)⟩⟩)
theorem F10_isLawful_b5_ok {z m n : Nat} (hz : 10 ≤ z) {g : Nat → Nat → Int} {game : Nat → Int32} (hG : GM m n g game) {f : Nat → Int} {share : Nat → Int64} (hsh : ∀ i, i < n → share i = i6 (f (i + 1))) (hfb : ∀ t, t < n + 1 → -1462763520 ≤ f t ∧ f t ≤ 1462763520) : ∀ (rem w i : Nat) (x : Int), i + rem = n → rem < w → ((x = 1 ∧ ∀ i', i' < i → 0 ≤ f (i' + 1)) ∨ (x = 0 ∧ ¬ (∀ i', i' < i → 0 ≤ f (i' + 1)))) → ∃ y : Int, F10_isLawful_b5 z w (i6 (f 0)) (i3 x) (i3 i) game (i3 n) (i3 m) share = some (i3 y) ∧ ((y = 1 ∧ lawful m n g f) ∨ (y = 0 ∧ ¬ lawful m n g f)) := by
  have hG' := hG
  obtain ⟨hm0, hm, hn0, hn, hg, hgm⟩ := hG'
  intro rem
  induction rem with
  | zero =>
    intro w i x hi hw h
    obtain ⟨w, rfl⟩ : ∃ w', w = w' + 1 := ⟨w - 1, by omega⟩
    have e : i = n := by omega
    subst e
    unfold F10_isLawful_b5 F10_isLawful_b42
    rw [if_pos (by rw [i3_le (by omega) (by omega) (by omega) (by omega)]; omega)]
    exact F10_isLawful_b45_ok hz hG hsh hfb (∀ i', i' < i → 0 ≤ f (i' + 1)) m z 0 x (by omega) (by omega) (by
      rcases h with ⟨e, h⟩ | ⟨e, h⟩
      · exact Or.inl ⟨e, h, fun j' hj' => by omega⟩
      · exact Or.inr ⟨e, fun q => h q.1⟩)
  | succ rem ih =>
    intro w i x hi hw h
    obtain ⟨w, rfl⟩ : ∃ w', w = w' + 1 := ⟨w - 1, by omega⟩
    have hcc : ((i : Nat) : Int) + 1 = ((i + 1 : Nat) : Int) := by omega
    have hb := hfb (i + 1) (by omega)
    unfold F10_isLawful_b5 F10_isLawful_b35
    rw [if_neg (by rw [i3_le (by omega) (by omega) (by omega) (by omega)]; omega)]
    rcases h with ⟨e, h⟩ | ⟨e, h⟩
    · subst e
      rw [if_neg (by decide)]
      simp (disch := omega) only [xg_in, i3_xnN]
      rw [hsh i (by omega)]
      by_cases q : f (i + 1) < 0
      · rw [i6_l0, cmp_lt (by omega) (by omega) (by omega) (by omega) q, if_pos (by decide), i3_l1, i3_add, hcc]
        exact ih w (i + 1) 0 (by omega) (by omega) (Or.inr ⟨rfl, fun q2 => by have := q2 i (by omega); omega⟩)
      · have hnl : ¬ lg_cmp (i6 (f (i + 1))) 0 < 0 := by
          rw [i6_l0]
          by_cases q2 : f (i + 1) = 0
          · rw [q2, cmp_eq]; decide
          · rw [cmp_gt (by omega) (by omega) (by omega) (by omega) (by omega)]; decide
        rw [if_neg hnl, i3_l1, i3_add, hcc]
        refine ih w (i + 1) 1 (by omega) (by omega) (Or.inl ⟨rfl, fun i' hi' => ?_⟩)
        by_cases q2 : i' = i
        · rw [q2]; omega
        · exact h i' (by omega)
    · subst e
      rw [if_pos (show i3 0 = 0 from rfl), i3_l1, i3_add, hcc]
      exact ih w (i + 1) 0 (by omega) (by omega) (Or.inr ⟨rfl, fun q2 => h (fun i' hi' => q2 i' (by omega))⟩)
theorem F10_isLawful_ok {z m n : Nat} (hz : 10 ≤ z) {g : Nat → Nat → Int} {game : Nat → Int32} (hG : GM m n g game) {f : Nat → Int} {share : Nat → Int64} (hsh : ∀ i, i < n → share i = i6 (f (i + 1))) (hfb : ∀ t, t < n + 1 → -1462763520 ≤ f t ∧ f t ≤ 1462763520) : (lawful m n g f → F10_isLawful z (i6 (f 0)) game (i3 n) (i3 m) share = some 1) ∧ (¬ lawful m n g f → F10_isLawful z (i6 (f 0)) game (i3 n) (i3 m) share = some 0) := by
  obtain ⟨y, e, h⟩ := F10_isLawful_b5_ok hz hG hsh hfb n z 0 1 (by omega) (by have := hG.2.2.2.1; omega) (Or.inl ⟨rfl, fun i hi => by omega⟩)
  have e' : F10_isLawful z (i6 (f 0)) game (i3 n) (i3 m) share = some (i3 y) := e
  rw [e']
  rcases h with ⟨e1, h⟩ | ⟨e1, h⟩
  · exact ⟨fun _ => by rw [e1]; rfl, fun q => absurd h q⟩
  · exact ⟨fun q => absurd q h, fun _ => by rw [e1]; rfl⟩
theorem F10_isBetter_b55_ok {z n : Nat} (hn : n < 7) {f f' : Nat → Int} {b b' : Int} {isF : Int32} {bV bB : Int64} {bS share : Nat → Int64} (hb : 0 < b ∧ b ≤ 1462763520) (hb' : 0 < b' ∧ b' ≤ 1462763520) (hfb : ∀ t, t < n + 1 → -1462763520 ≤ f t ∧ f t ≤ 1462763520) (hfb' : ∀ t, t < n + 1 → -1462763520 ≤ f' t ∧ f' t ≤ 1462763520) (hB : bB = i6 b) (hS : ∀ i, i < n → bS i = i6 (f (i + 1))) (hsh : ∀ i, i < n → share i = i6 (f' (i + 1))) : ∀ (rem w i : Nat), i + rem = n → rem < w → (Lps rem (fun t => f' (i + t + 1) * b - f (i + t + 1) * b') → F10_isBetter_b55 z w (i6 b') (i3 i) (i3 n) isF bV bB bS share = some 1) ∧ (¬ Lps rem (fun t => f' (i + t + 1) * b - f (i + t + 1) * b') → F10_isBetter_b55 z w (i6 b') (i3 i) (i3 n) isF bV bB bS share = some 0) := by
  subst hB
  intro rem
  induction rem with
  | zero =>
    intro w i hi hw
    obtain ⟨w, rfl⟩ : ∃ w', w = w' + 1 := ⟨w - 1, by omega⟩
    unfold F10_isBetter_b55
    rw [if_pos (by rw [i3_le (by omega) (by omega) (by omega) (by omega)]; omega)]
    exact ⟨fun q => q.elim, fun _ => rfl⟩
  | succ rem ih =>
    intro w i hi hw
    obtain ⟨w, rfl⟩ : ∃ w', w = w' + 1 := ⟨w - 1, by omega⟩
    have h1 := hfb (i + 1) (by omega)
    have h2 := hfb' (i + 1) (by omega)
    have p1 := prod_bd h2.1 h2.2 (show - 1462763520 ≤ b by omega) hb.2
    have p2 := prod_bd h1.1 h1.2 (show - 1462763520 ≤ b' by omega) hb'.2
    unfold F10_isBetter_b55
    rw [if_neg (by rw [i3_le (by omega) (by omega) (by omega) (by omega)]; omega)]
    unfold F10_isBetter_b89
    simp (disch := omega) only [xg_in, i3_xnN]
    rw [hsh i (by omega), hS i (by omega), i6_mul, i6_mul]
    have hL : Lps (rem + 1) (fun t => f' (i + t + 1) * b - f (i + t + 1) * b') ↔ (0 < f' (i + 1) * b - f (i + 1) * b' ∨ (f' (i + 1) * b - f (i + 1) * b' = 0 ∧ Lps rem (fun t => f' (i + 1 + t + 1) * b - f (i + 1 + t + 1) * b'))) := by
      have e : (fun t => f' (i + (t + 1) + 1) * b - f (i + (t + 1) + 1) * b') = (fun t => f' (i + 1 + t + 1) * b - f (i + 1 + t + 1) * b') := by
        funext t; rw [show i + (t + 1) + 1 = i + 1 + t + 1 by omega]
      show (0 < f' (i + 0 + 1) * b - f (i + 0 + 1) * b' ∨ (f' (i + 0 + 1) * b - f (i + 0 + 1) * b' = 0 ∧ Lps rem (fun t => f' (i + (t + 1) + 1) * b - f (i + (t + 1) + 1) * b'))) ↔ _
      rw [e]
    rw [hL]
    generalize f' (i + 1) * b = x at *
    generalize f (i + 1) * b' = y at *
    by_cases q : x = y
    · subst q
      rw [cmp_eq, if_pos rfl, i3_l1, i3_add]
      have hih := ih w (i + 1) (by omega) (by omega)
      refine ⟨fun q => ?_, fun q => ?_⟩
      · rcases q with q | q
        · omega
        · exact hih.1 q.2
      · exact hih.2 (fun q2 => q (Or.inr ⟨by omega, q2⟩))
    · by_cases q2 : x < y
      · rw [cmp_lt (by omega) (by omega) (by omega) (by omega) q2]
        refine ⟨fun q => ?_, fun _ => rfl⟩
        rcases q with q | q <;> omega
      · rw [cmp_gt (by omega) (by omega) (by omega) (by omega) (by omega)]
        exact ⟨fun _ => rfl, fun q3 => absurd (Or.inl (by omega)) q3⟩
/-- what the reference holds of the best till now -/
def RB (n : Nat) (fd : Bool) (b : Int) (f : Nat → Int) (isF : Int32) (bV bB : Int64) (bS : Nat → Int64) : Prop := isF = i3 (if fd then 1 else 0) ∧ (fd = true → bV = i6 (f 0) ∧ bB = i6 b ∧ (∀ i, i < n → bS i = i6 (f (i + 1))) ∧ (∀ t, t < n + 1 → -1462763520 ≤ f t ∧ f t ≤ 1462763520) ∧ 0 < b ∧ b ≤ 1462763520)
theorem F10_isBetter_ok {z n : Nat} (hz : 10 ≤ z) (hn : n < 7) {fd : Bool} {f f' : Nat → Int} {b b' : Int} {isF : Int32} {bV bB : Int64} {bS share : Nat → Int64} (hR : RB n fd b f isF bV bB bS) (hb' : 0 < b' ∧ b' ≤ 1462763520) (hfb' : ∀ t, t < n + 1 → -1462763520 ≤ f' t ∧ f' t ≤ 1462763520) (hsh : ∀ i, i < n → share i = i6 (f' (i + 1))) : ((fd = false ∨ Lps (n + 1) (fun t => f' t * b - f t * b')) → F10_isBetter z (i6 (f' 0)) (i6 b') (i3 n) isF bV bB bS share = some 1) ∧ (¬ (fd = false ∨ Lps (n + 1) (fun t => f' t * b - f t * b')) → F10_isBetter z (i6 (f' 0)) (i6 b') (i3 n) isF bV bB bS share = some 0) := by
  obtain ⟨e, h⟩ := hR
  subst e
  unfold F10_isBetter F10_isBetter_b23
  cases fd with
  | false =>
    rw [if_pos (show i3 (if false = true then 1 else 0) = 0 from rfl), if_pos (show i3 (if false = true then 1 else 0) = 0 from rfl)]
    exact ⟨fun _ => rfl, fun q => absurd (Or.inl rfl) q⟩
  | true =>
    obtain ⟨rfl, rfl, hS, hfb, hb1, hb2⟩ := h rfl
    have hne : ¬ i3 (if true = true then 1 else 0) = 0 := by decide
    have h1 := hfb 0 (by omega)
    have h2 := hfb' 0 (by omega)
    have p1 := prod_bd h2.1 h2.2 (show - 1462763520 ≤ b by omega) hb2
    have p2 := prod_bd h1.1 h1.2 (show - 1462763520 ≤ b' by omega) hb'.2
    rw [if_neg hne, i6_mul, i6_mul]
    have hL : (true = false ∨ Lps (n + 1) (fun t => f' t * b - f t * b')) ↔ (0 < f' 0 * b - f 0 * b' ∨ (f' 0 * b - f 0 * b' = 0 ∧ Lps n (fun t => f' (0 + t + 1) * b - f (0 + t + 1) * b'))) := by
      have e : (fun t => f' (0 + t + 1) * b - f (0 + t + 1) * b') = (fun t => f' (t + 1) * b - f (t + 1) * b') := by
        funext t; rw [show 0 + t + 1 = t + 1 by omega]
      rw [e]
      constructor
      · rintro (q | q)
        · exact absurd q (by decide)
        · exact q
      · exact fun q => Or.inr q
    rw [hL]
    have h55 := F10_isBetter_b55_ok (z := z) (isF := i3 (if true = true then 1 else 0)) (bV := i6 (f 0)) (bB := i6 b) hn ⟨hb1, hb2⟩ hb' hfb hfb' rfl hS hsh n z 0 (by omega) (by omega)
    generalize hx : f' 0 * b = x at *
    generalize hy : f 0 * b' = y at *
    by_cases q : x = y
    · subst q
      rw [cmp_eq, if_pos rfl]
      refine ⟨fun q => ?_, fun q => ?_⟩
      · rcases q with q | q
        · omega
        · exact h55.1 q.2
      · exact h55.2 (fun q2 => q (Or.inr ⟨by omega, q2⟩))
    · by_cases q2 : x < y
      · rw [cmp_lt (by omega) (by omega) (by omega) (by omega) q2, if_neg (by decide), if_neg hne, if_pos (by decide)]
        refine ⟨fun q => ?_, fun _ => rfl⟩
        rcases q with q | q <;> omega
      · rw [cmp_gt (by omega) (by omega) (by omega) (by omega) (by omega), if_neg (by decide), if_neg hne, if_neg (by decide)]
        exact ⟨fun _ => rfl, fun q3 => absurd (Or.inl (by omega)) q3⟩
