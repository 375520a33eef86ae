/-! ===== the class's game ===== -/
theorem i6_div {a b : Int} (h1 : -9223372036854775808 ≤ a) (h2 : a < 9223372036854775808) (h3 : -9223372036854775808 ≤ b) (h4 : b < 9223372036854775808) : i6 a / i6 b = i6 (a.tdiv b) := (Int64.ofInt_tdiv (by show (-9223372036854775808 : Int) ≤ a; omega) (by show a ≤ (9223372036854775807 : Int); omega) (by show (-9223372036854775808 : Int) ≤ b; omega) (by show b ≤ (9223372036854775807 : Int); omega)).symm
theorem i3_div {a b : Int} (h1 : -2147483648 ≤ a) (h2 : a < 2147483648) (h3 : -2147483648 ≤ b) (h4 : b < 2147483648) : i3 a / i3 b = i3 (a.tdiv b) := (Int32.ofInt_tdiv (by show (-2147483648 : Int) ≤ a; omega) (by show a ≤ (2147483647 : Int); omega) (by show (-2147483648 : Int) ≤ b; omega) (by show b ≤ (2147483647 : Int); omega)).symm
theorem i6_l0 : (0 : Int64) = i6 0 := rfl
theorem i6_l1 : (1 : Int64) = i6 1 := rfl
theorem i6_l9 : (9 : Int64) = i6 9 := rfl
theorem i6_m1 : (-1 : Int64) = i6 (-1) := rfl
theorem cmp_lt {a b : Int} (h1 : -9223372036854775808 ≤ a) (h2 : a < 9223372036854775808) (h3 : -9223372036854775808 ≤ b) (h4 : b < 9223372036854775808) (h : a < b) : lg_cmp (i6 a) (i6 b) = -1 := by
  unfold lg_cmp
  rw [if_neg (by show ¬ i6 b < i6 a; rw [i6_lt h3 h4 h1 h2]; omega), if_neg (by rw [i6_eq h1 h2 h3 h4]; omega)]
theorem cmp_eq (a : Int) : lg_cmp (i6 a) (i6 a) = 0 := by
  unfold lg_cmp
  rw [if_neg (by show ¬ i6 a < i6 a; exact fun h => Int64.lt_irrefl h), if_pos rfl]
theorem cmp_gt {a b : Int} (h1 : -9223372036854775808 ≤ a) (h2 : a < 9223372036854775808) (h3 : -9223372036854775808 ≤ b) (h4 : b < 9223372036854775808) (h : b < a) : lg_cmp (i6 a) (i6 b) = 1 := by
  unfold lg_cmp
  rw [if_pos (by show i6 b < i6 a; rw [i6_lt h3 h4 h1 h2]; exact h)]
theorem xnzl_i6 {α : Type} {a : Int} (k : Option α) (h1 : -9223372036854775808 ≤ a) (h2 : a < 9223372036854775808) (h : a ≠ 0) : xg (xnzl (i6 a)) k = k := by
  have : xnzl (i6 a) = true := by
    unfold xnzl
    rw [Bool.not_eq_true', decide_eq_false_iff_not, i6_l0, i6_eq h1 h2 (by omega) (by omega)]
    exact h
  rw [this]; rfl
theorem tup (t : Nat → Nat → Int64) (a b : Nat) (v : Int64) (a' b' : Nat) : va_up t a (vp_updL (t a) b v) a' b' = if a' = a ∧ b' = b then v else t a' b' := by
  unfold va_up vp_updL
  by_cases h1 : a' = a
  · subst h1
    by_cases h2 : b' = b
    · simp [h2]
    · simp [h2]
  · simp [h1]
theorem tup3 (t : Nat → Nat → Int32) (a b : Nat) (v : Int32) (a' b' : Nat) : va_up t a (upd (t a) b v) a' b' = if a' = a ∧ b' = b then v else t a' b' := by
  unfold va_up upd
  by_cases h1 : a' = a
  · subst h1
    by_cases h2 : b' = b
    · simp [h2]
    · simp [h2]
  · simp [h1]
/-- a table as the class holds it -/
def TR (m n : Nat) (s : SS) (table : Nat → Nat → Int64) (rowN colN : Nat → Int32) (scale : Int64) : Prop := (∀ i j, i < m + 1 → j < n + 1 → table i j = i6 (s.1 i j)) ∧ (∀ i, i < m → rowN i = i3 (s.2.2.1 i : Nat)) ∧ (∀ j, j < n → colN j = i3 (s.2.2.2 j : Nat)) ∧ scale = i6 s.2.1
/-- a table with bounds -/
def SB (m n : Nat) (s : SS) : Prop := m < 7 ∧ n < 7 ∧ 0 < m ∧ 0 < n ∧ SN m n s ∧ (∀ i j, i < m + 1 → j < n + 1 → - 1462763520 ≤ s.1 i j ∧ s.1 i j ≤ 1462763520) ∧ 0 < s.2.1 ∧ s.2.1 ≤ 1462763520
theorem F1_rowOf_b2_ok {z m n : Nat} {s : SS} {table : Nat → Nat → Int64} {rowN colN : Nat → Int32} {scale : Int64} (hB : SB m n s) (hT : TR m n s table rowN colN scale) {k : Nat} (hk : k < 100) : ∀ (rem w i : Nat), i + rem = m → rem < w → F1_rowOf_b2 z w (i3 k) (i3 i) rowN (i3 m) = some (i3 (fnd (fun i => decide (s.2.2.1 i = k)) i rem)) := by
  have hm := hB.1
  intro rem
  induction rem with
  | zero =>
    intro w i hi hw
    obtain ⟨w, rfl⟩ : ∃ w', w = w' + 1 := ⟨w - 1, by omega⟩
    unfold F1_rowOf_b2
    rw [if_pos (by rw [i3_le (by omega) (by omega) (by omega) (by omega)]; omega)]
    rfl
  | succ rem ih =>
    intro w i hi hw
    obtain ⟨w, rfl⟩ : ∃ w', w = w' + 1 := ⟨w - 1, by omega⟩
    have hr := SN_row hB.2.2.2.2.1 (show i < m by omega)
    have hn := hB.2.1
    unfold F1_rowOf_b2
    rw [if_neg (by rw [i3_le (by omega) (by omega) (by omega) (by omega)]; omega), xg_in _ (by omega) (by omega) (by omega), i3_xnN (by omega), hT.2.1 i (by omega)]
    show _ = some (i3 (if decide (s.2.2.1 i = k) = true then (i : Int) else fnd _ (i + 1) rem))
    by_cases e : s.2.2.1 i = k
    · rw [if_pos (by rw [e]), if_pos (by simpa using e)]
    · rw [if_neg (by rw [i3_eq (by omega) (by omega) (by omega) (by omega)]; omega), if_neg (by simpa using e), i3_l1, i3_add]
      exact ih w (i + 1) (by omega) (by omega)
theorem F1_rowOf_ok {z m n : Nat} {s : SS} {table : Nat → Nat → Int64} {rowN colN : Nat → Int32} {scale : Int64} (hB : SB m n s) (hT : TR m n s table rowN colN scale) (hz : 10 ≤ z) {k : Nat} (hk : k < 100) : F1_rowOf z (i3 k) rowN (i3 m) = some (i3 (fnd (fun i => decide (s.2.2.1 i = k)) 0 m)) := F1_rowOf_b2_ok hB hT hk m z 0 (by omega) (by have := hB.1; omega)
/-- what stands in the row of a name, by the search -/
theorem row_val {m n : Nat} {s : SS} (hN : SN m n s) (k j : Nat) : (fnd (fun i => decide (s.2.2.1 i = k)) 0 m = -1 ∧ sm m (fun i => if s.2.2.1 i = k then s.1 i j else 0) = 0) ∨ (∃ i : Nat, i < m ∧ s.2.2.1 i = k ∧ fnd (fun i => decide (s.2.2.1 i = k)) 0 m = i ∧ sm m (fun i => if s.2.2.1 i = k then s.1 i j else 0) = s.1 i j) := by
  by_cases h : ∃ i, i < m ∧ s.2.2.1 i = k
  · obtain ⟨i, hi, e⟩ := h
    right
    refine ⟨i, hi, e, ?_, ?_⟩
    · refine fnd_hit (Nat.zero_le _) (by omega) (by simpa using e) (fun j' h1 h2 => ?_)
      rw [decide_eq_false_iff_not]
      exact fun q => SN_rr hN (show j' < m by omega) hi (by omega) (q.trans e.symm)
    · rw [sm_one (r := i) hi (fun i' hi' hne => if_neg (fun q => SN_rr hN hi' hi hne (q.trans e.symm))), if_pos e]
  · left
    refine ⟨fnd_none (fun j' h1 h2 => ?_), sm_zero (fun i hi => if_neg (fun q => h ⟨i, hi, q⟩))⟩
    rw [decide_eq_false_iff_not]
    exact fun q => h ⟨j', by omega, q⟩
theorem F1_isBetter_b15_ok {z m n : Nat} {s : SS} {table : Nat → Nat → Int64} {rowN colN : Nat → Int32} {scale : Int64} (hB : SB m n s) (hT : TR m n s table rowN colN scale) (hz : 10 ≤ z) {j : Nat} (hj : j < n) : ∀ (rem w k : Nat), k + rem = n → rem < w → (Lps (rem + 1) (fun i => - rd m n s j (k + i)) → F1_isBetter_b15 z w (i3 j) (i6 (rd m n s j k)) (i3 k) table rowN colN (i3 m) (i3 n) = some 1) ∧ (¬ Lps (rem + 1) (fun i => - rd m n s j (k + i)) → F1_isBetter_b15 z w (i3 j) (i6 (rd m n s j k)) (i3 k) table rowN colN (i3 m) (i3 n) = some 0) := by
  obtain ⟨hm, hn, hm0, hn0, hN, hbd, hsc, hsc2⟩ := hB
  have hrdb : ∀ k, k < n + 1 → -2000000000 ≤ rd m n s j k ∧ rd m n s j k ≤ 2000000000 := fun k hk => by
    cases k with
    | zero => have := hbd m j (by omega) (by omega); show -2000000000 ≤ s.1 m j ∧ s.1 m j ≤ 2000000000; omega
    | succ k =>
      show -2000000000 ≤ (if s.2.2.2 j = k then - s.2.1 else sm m (fun i => if s.2.2.1 i = k then s.1 i j else 0)) ∧ (if s.2.2.2 j = k then - s.2.1 else sm m (fun i => if s.2.2.1 i = k then s.1 i j else 0)) ≤ 2000000000
      split
      · omega
      · rcases row_val hN k j with ⟨-, e⟩ | ⟨i, hi, -, -, e⟩
        · rw [e]; omega
        · rw [e]; have := hbd i j (by omega) (by omega); omega
  have hend : ∀ (a : Int), -2000000000 ≤ a → a ≤ 2000000000 → (a < 0 → F1_isBetter_b77 z (i6 a) table rowN colN (i3 m) (i3 n) = some 1) ∧ (0 ≤ a → F1_isBetter_b77 z (i6 a) table rowN colN (i3 m) (i3 n) = some 0) := fun a h1 h2 => by
    unfold F1_isBetter_b77
    refine ⟨fun h => ?_, fun h => ?_⟩
    · rw [i6_l0, cmp_lt (by omega) (by omega) (by omega) (by omega) h]; rfl
    · by_cases e : a = 0
      · subst e; rw [i6_l0, cmp_eq]; rfl
      · rw [i6_l0, cmp_gt (by omega) (by omega) (by omega) (by omega) (by omega)]; rfl
  intro rem
  induction rem with
  | zero =>
    intro w k hk hw
    obtain ⟨w, rfl⟩ : ∃ w', w = w' + 1 := ⟨w - 1, by omega⟩
    have hb := hrdb k (by omega)
    unfold F1_isBetter_b15
    rw [if_pos (by rw [i3_le (by omega) (by omega) (by omega) (by omega)]; omega)]
    refine ⟨fun h => ?_, fun h => ?_⟩
    · refine (hend _ hb.1 hb.2).1 ?_
      rcases h with q | q
      · have : 0 < - rd m n s j k := q
        omega
      · exact q.2.elim
    · refine (hend _ hb.1 hb.2).2 ?_
      apply Classical.byContradiction
      intro q
      exact h (Or.inl (by show 0 < - rd m n s j k; omega))
  | succ rem ih =>
    intro w k hk hw
    obtain ⟨w, rfl⟩ : ∃ w', w = w' + 1 := ⟨w - 1, by omega⟩
    have hb := hrdb k (by omega)
    unfold F1_isBetter_b15
    rw [if_neg (by rw [i3_le (by omega) (by omega) (by omega) (by omega)]; omega)]
    by_cases e0 : rd m n s j k = 0
    · have hl : Lps (rem + 1 + 1) (fun i => - rd m n s j (k + i)) ↔ Lps (rem + 1) (fun i => - rd m n s j (k + 1 + i)) := by
        constructor
        · intro q
          rcases q with q | q
          · have : 0 < - rd m n s j k := q
            omega
          · exact Lps_congr (fun i _ => by show - rd m n s j (k + (i + 1)) = _; rw [show k + (i + 1) = k + 1 + i by omega]) q.2
        · intro q
          exact Or.inr ⟨by show - rd m n s j k = 0; omega, Lps_congr (fun i _ => by show _ = - rd m n s j (k + (i + 1)); rw [show k + (i + 1) = k + 1 + i by omega]) q⟩
      rw [hl, e0, i6_l0, cmp_eq, if_pos rfl, xg_in _ (by omega) (by omega) (by omega), i3_xnN (by omega), hT.2.2.1 j hj]
      have hcn := SN_col hN hj
      by_cases e1 : s.2.2.2 j = k
      · rw [if_pos (by rw [e1])]
        have hneg : Lps (rem + 1) (fun i => - rd m n s j (k + 1 + i)) := by
          left
          show 0 < - (if s.2.2.2 j = k then - s.2.1 else _)
          rw [if_pos e1]; omega
        exact ⟨fun _ => rfl, fun q => absurd hneg q⟩
      · rw [if_neg (by rw [i3_eq (by omega) (by omega) (by omega) (by omega)]; omega), F1_rowOf_ok ⟨hm, hn, hm0, hn0, hN, hbd, hsc, hsc2⟩ hT hz (show k < 100 by omega)]
        simp only [Option.bind_some]
        have erd : rd m n s j (k + 1) = sm m (fun i => if s.2.2.1 i = k then s.1 i j else 0) := if_neg e1
        have hih := ih w (k + 1) (by omega) (by omega)
        rw [erd] at hih
        unfold F1_isBetter_b70
        rcases row_val hN k j with ⟨ef, ev⟩ | ⟨i, hi, -, ef, ev⟩
        · rw [ef, if_pos i3_m1.symm]
          rw [ev] at hih
          rw [i3_l1, i3_add]
          exact hih
        · rw [ef, if_neg (by rw [i3_m1, i3_eq (by omega) (by omega) (by omega) (by omega)]; omega), xg_in _ (by omega) (by omega) (by omega), xg_in _ (by omega) (by omega) (by omega), i3_xnN (by omega), hT.1 i j (by omega) (by omega)]
          rw [ev] at hih
          rw [i3_l1, i3_add]
          exact hih
    · have hc : ¬ lg_cmp (i6 (rd m n s j k)) 0 = 0 := by
        rw [i6_l0]
        by_cases q : rd m n s j k < 0
        · rw [cmp_lt (by omega) (by omega) (by omega) (by omega) q]; decide
        · rw [cmp_gt (by omega) (by omega) (by omega) (by omega) (by omega)]; decide
      rw [if_neg hc]
      refine ⟨fun h => ?_, fun h => ?_⟩
      · refine (hend _ hb.1 hb.2).1 ?_
        rcases h with q | q
        · have : 0 < - rd m n s j k := q
          omega
        · have : - rd m n s j k = 0 := q.1
          omega
      · refine (hend _ hb.1 hb.2).2 ?_
        apply Classical.byContradiction
        intro q
        exact h (Or.inl (by show 0 < - rd m n s j k; omega))
theorem F1_isBetter_ok {z m n : Nat} {s : SS} {table : Nat → Nat → Int64} {rowN colN : Nat → Int32} {scale : Int64} (hB : SB m n s) (hT : TR m n s table rowN colN scale) (hz : 10 ≤ z) {j : Nat} (hj : j < n) : (Lps (n + 1) (fun i => - rd m n s j i) → F1_isBetter z (i3 j) table rowN colN (i3 m) (i3 n) = some 1) ∧ (¬ Lps (n + 1) (fun i => - rd m n s j i) → F1_isBetter z (i3 j) table rowN colN (i3 m) (i3 n) = some 0) := by
  have hm := hB.1
  have hn := hB.2.1
  have h := F1_isBetter_b15_ok hB hT hz hj n z 0 (by omega) (by omega)
  unfold F1_isBetter
  rw [xg_in _ (by omega) (by omega) (by omega), xg_in _ (by omega) (by omega) (by omega), i3_xnN (by omega), i3_xnN (by omega), hT.1 m j (by omega) (by omega)]
  have e : (fun i => - rd m n s j (0 + i)) = fun i => - rd m n s j i := by funext i; rw [Nat.zero_add]
  rw [e] at h
  exact h
theorem F1_entering_b4_ok {z m n : Nat} {s : SS} {table : Nat → Nat → Int64} {rowN colN : Nat → Int32} {scale : Int64} (hB : SB m n s) (hT : TR m n s table rowN colN scale) (hz : 10 ≤ z) : ∀ (rem w c : Nat) (f : Int), c + rem = n → rem < w → ((f = -1 ∧ ∀ j, j < c → ¬ Lps (n + 1) (fun i => - rd m n s j i)) ∨ (∃ f' : Nat, f = f' ∧ f' < c ∧ Lps (n + 1) (fun i => - rd m n s f' i) ∧ ∀ j, j < c → Lps (n + 1) (fun i => - rd m n s j i) → s.2.2.2 f' ≤ s.2.2.2 j)) → ∃ f2 : Int, F1_entering_b4 z w (i3 f) (i3 c) table rowN colN (i3 m) (i3 n) = some (i3 f2) ∧ ((f2 = -1 ∧ ∀ j, j < n → ¬ Lps (n + 1) (fun i => - rd m n s j i)) ∨ (∃ f' : Nat, f2 = f' ∧ Ent m n s f')) := by
  have hm := hB.1
  have hn := hB.2.1
  intro rem
  induction rem with
  | zero =>
    intro w c f hc hw h
    obtain ⟨w, rfl⟩ : ∃ w', w = w' + 1 := ⟨w - 1, by omega⟩
    have e : c = n := by omega
    subst e
    unfold F1_entering_b4
    rw [if_pos (by rw [i3_le (by omega) (by omega) (by omega) (by omega)]; omega)]
    refine ⟨f, rfl, ?_⟩
    rcases h with h | ⟨f', e, h1, h2, h3⟩
    · exact Or.inl h
    · exact Or.inr ⟨f', e, h1, h2, h3⟩
  | succ rem ih =>
    intro w c f hc hw h
    obtain ⟨w, rfl⟩ : ∃ w', w = w' + 1 := ⟨w - 1, by omega⟩
    unfold F1_entering_b4
    rw [if_neg (by rw [i3_le (by omega) (by omega) (by omega) (by omega)]; omega)]
    have hcc : ((c : Nat) : Int) + 1 = ((c + 1 : Nat) : Int) := by omega
    -- looked at
    have hlook : (∀ j, j < c → Lps (n + 1) (fun i => - rd m n s j i) → s.2.2.2 c ≤ s.2.2.2 j) → ∃ f2 : Int, F1_entering_b37 z (i3 f) (i3 c) 1 table rowN colN (i3 m) (i3 n) (fun q0 q1 q2 q3 q4 q5 q6 => F1_entering_b4 z w q0 q1 q2 q3 q4 q5 q6) = some (i3 f2) ∧ ((f2 = -1 ∧ ∀ j, j < n → ¬ Lps (n + 1) (fun i => - rd m n s j i)) ∨ (∃ f' : Nat, f2 = f' ∧ Ent m n s f')) := by
      intro hless
      unfold F1_entering_b37 F1_entering_b52
      rw [if_neg (by decide)]
      by_cases hb : Lps (n + 1) (fun i => - rd m n s c i)
      · rw [(F1_isBetter_ok hB hT hz (show c < n by omega)).1 hb]
        simp only [Option.bind_some]
        rw [if_neg (by decide), i3_l1, i3_add, hcc]
        refine ih w (c + 1) c (by omega) (by omega) (Or.inr ⟨c, rfl, by omega, hb, fun j hj hbj => ?_⟩)
        by_cases e : j = c
        · rw [e]; exact Nat.le_refl _
        · exact hless j (by omega) hbj
      · rw [(F1_isBetter_ok hB hT hz (show c < n by omega)).2 hb]
        simp only [Option.bind_some, if_true]
        rw [i3_l1, i3_add, hcc]
        refine ih w (c + 1) f (by omega) (by omega) ?_
        rcases h with ⟨e, h⟩ | ⟨f', e, h1, h2, h3⟩
        · exact Or.inl ⟨e, fun j hj => by
            by_cases e2 : j = c
            · rw [e2]; exact hb
            · exact h j (by omega)⟩
        · exact Or.inr ⟨f', e, by omega, h2, fun j hj hbj => by
            by_cases e2 : j = c
            · rw [e2] at hbj; exact absurd hbj hb
            · exact h3 j (by omega) hbj⟩
    rcases h with ⟨e, h⟩ | ⟨f', e, h1, h2, h3⟩
    · rw [e, if_pos i3_m1.symm]
      rw [e] at hlook
      exact hlook (fun j hj hbj => absurd hbj (h j hj))
    · have hf' := SN_col hB.2.2.2.2.1 (show f' < n by omega)
      have hc' := SN_col hB.2.2.2.2.1 (show c < n by omega)
      rw [e, if_neg (by rw [i3_m1, i3_eq (by omega) (by omega) (by omega) (by omega)]; omega), xg_in _ (by omega) (by omega) (by omega), xg_in _ (by omega) (by omega) (by omega), i3_xnN (by omega), i3_xnN (by omega), hT.2.2.1 f' (by omega), hT.2.2.1 c (by omega)]
      by_cases hle : s.2.2.2 f' ≤ s.2.2.2 c
      · rw [if_pos (by rw [i3_le (by omega) (by omega) (by omega) (by omega)]; omega)]
        unfold F1_entering_b37 F1_entering_b52
        rw [if_pos rfl, i3_l1, i3_add, hcc]
        refine ih w (c + 1) f' (by omega) (by omega) (Or.inr ⟨f', rfl, by omega, h2, fun j hj hbj => ?_⟩)
        by_cases e2 : j = c
        · rw [e2]; exact hle
        · exact h3 j (by omega) hbj
      · rw [if_neg (by rw [i3_le (by omega) (by omega) (by omega) (by omega)]; omega)]
        rw [e] at hlook
        exact hlook (fun j hj hbj => by have := h3 j hj hbj; omega)
theorem F1_entering_ok {z m n : Nat} {s : SS} {table : Nat → Nat → Int64} {rowN colN : Nat → Int32} {scale : Int64} (hB : SB m n s) (hT : TR m n s table rowN colN scale) (hz : 10 ≤ z) : ∃ f2 : Int, F1_entering z table rowN colN (i3 m) (i3 n) = some (i3 f2) ∧ ((f2 = -1 ∧ ∀ j, j < n → ¬ Lps (n + 1) (fun i => - rd m n s j i)) ∨ (∃ f' : Nat, f2 = f' ∧ Ent m n s f')) :=
  F1_entering_b4_ok hB hT hz n z 0 (-1) (by omega) (by have := hB.2.1; omega) (Or.inl ⟨rfl, fun j hj => by omega⟩)
