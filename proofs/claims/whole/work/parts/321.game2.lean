theorem frac_trans {a b p q u v : Int} (hb : 0 < b) (hq : 0 < q) (hv : 0 < v) (h1 : a * q ≤ p * b) (h2 : p * v ≤ u * q) : a * v ≤ u * b ∧ ((a * q < p * b ∨ p * v < u * q) → a * v < u * b) := by
  have e1 := Int.mul_le_mul_of_nonneg_right h1 (Int.le_of_lt hv)
  have e2 := Int.mul_le_mul_of_nonneg_right h2 (Int.le_of_lt hb)
  have e3 : a * v * q ≤ u * b * q := by grind
  refine ⟨Int.le_of_mul_le_mul_right e3 hq, fun h => ?_⟩
  have e4 : a * v * q < u * b * q := by
    rcases h with h | h
    · have := Int.mul_lt_mul_of_pos_right h hv
      grind
    · have := Int.mul_lt_mul_of_pos_right h hb
      grind
  exact Int.lt_of_mul_lt_mul_right e4 (Int.le_of_lt hq)
theorem prod_bd {x y : Int} (h1 : - 1462763520 ≤ x) (h2 : x ≤ 1462763520) (h3 : - 1462763520 ≤ y) (h4 : y ≤ 1462763520) : -2139677115453190400 ≤ x * y ∧ x * y ≤ 2139677115453190400 := by
  have := abs_mul h1 h2 h3 h4
  omega
theorem F1_isSooner_ok {m n : Nat} {s : SS} {table : Nat → Nat → Int64} {rowN colN : Nat → Int32} {scale : Int64} (hB : SB m n s) (hT : TR m n s table rowN colN scale) {r f c : Nat} (hr : r < m) (hf : f < m) (hc : c < n) : ((s.1 r n * s.1 f c < s.1 f n * s.1 r c ∨ (s.1 r n * s.1 f c = s.1 f n * s.1 r c ∧ s.2.2.1 r < s.2.2.1 f)) → F1_isSooner (i3 r) (i3 f) (i3 c) table rowN (i3 n) = some 1) ∧ (¬ (s.1 r n * s.1 f c < s.1 f n * s.1 r c ∨ (s.1 r n * s.1 f c = s.1 f n * s.1 r c ∧ s.2.2.1 r < s.2.2.1 f)) → F1_isSooner (i3 r) (i3 f) (i3 c) table rowN (i3 n) = some 0) := by
  obtain ⟨hm, hn, hm0, hn0, hN, hbd, hsc, hsc2⟩ := hB
  have b1 := hbd r n (by omega) (by omega)
  have b2 := hbd f c (by omega) (by omega)
  have b3 := hbd f n (by omega) (by omega)
  have b4 := hbd r c (by omega) (by omega)
  have p1 := prod_bd b1.1 b1.2 b2.1 b2.2
  have p2 := prod_bd b3.1 b3.2 b4.1 b4.2
  have n1 := SN_row hN hr
  have n2 := SN_row hN hf
  unfold F1_isSooner
  simp (disch := omega) only [xg_in, i3_xnN]
  rw [hT.1 r n (by omega) (by omega), hT.1 f c (by omega) (by omega), hT.1 f n (by omega) (by omega), hT.1 r c (by omega) (by omega), i6_mul, i6_mul, hT.2.1 r hr, hT.2.1 f hf]
  generalize s.1 r n * s.1 f c = a at *
  generalize s.1 f n * s.1 r c = b at *
  by_cases h1 : a < b
  · rw [cmp_lt (by omega) (by omega) (by omega) (by omega) h1]
    exact ⟨fun _ => rfl, fun q => absurd (Or.inl h1) q⟩
  · by_cases h2 : a = b
    · subst h2
      rw [cmp_eq, if_pos rfl]
      by_cases h3 : s.2.2.1 r < s.2.2.1 f
      · rw [if_neg (by rw [i3_le (by omega) (by omega) (by omega) (by omega)]; omega)]
        exact ⟨fun _ => rfl, fun q => absurd (Or.inr ⟨rfl, h3⟩) q⟩
      · rw [if_pos (by rw [i3_le (by omega) (by omega) (by omega) (by omega)]; omega)]
        refine ⟨fun q => ?_, fun _ => rfl⟩
        rcases q with q | q
        · exact absurd q h1
        · exact absurd q.2 h3
    · rw [cmp_gt (by omega) (by omega) (by omega) (by omega) (by omega)]
      refine ⟨fun q => ?_, fun _ => rfl⟩
      rcases q with q | q
      · exact absurd q h1
      · exact absurd q.1 h2
theorem F1_leaving_b4_ok {z m n : Nat} {s : SS} {table : Nat → Nat → Int64} {rowN colN : Nat → Int32} {scale : Int64} (hB : SB m n s) (hT : TR m n s table rowN colN scale) {c : Nat} (hc : c < n) : ∀ (rem w r : Nat) (f : Int), r + rem = m → rem < w → ((f = -1 ∧ ∀ i, i < r → s.1 i c ≤ 0) ∨ (∃ f' : Nat, f = f' ∧ f' < r ∧ 0 < s.1 f' c ∧ ∀ i, i < r → 0 < s.1 i c → s.1 f' n * s.1 i c < s.1 i n * s.1 f' c ∨ (s.1 f' n * s.1 i c = s.1 i n * s.1 f' c ∧ s.2.2.1 f' ≤ s.2.2.1 i))) → ∃ f2 : Int, F1_leaving_b4 z w (i3 c) (i3 f) (i3 r) table rowN (i3 m) (i3 n) = some (i3 f2) ∧ ((f2 = -1 ∧ ∀ i, i < m → s.1 i c ≤ 0) ∨ (∃ f' : Nat, f2 = f' ∧ Lea m n s c f')) := by
  have hm := hB.1
  have hn := hB.2.1
  have hbd := hB.2.2.2.2.2.1
  intro rem
  induction rem with
  | zero =>
    intro w r f hr hw h
    obtain ⟨w, rfl⟩ : ∃ w', w = w' + 1 := ⟨w - 1, by omega⟩
    have e : r = m := by omega
    subst e
    unfold F1_leaving_b4
    rw [if_pos (by rw [i3_le (by omega) (by omega) (by omega) (by omega)]; omega)]
    refine ⟨f, rfl, ?_⟩
    rcases h with h | ⟨f', e, h1, h2, h3⟩
    · exact Or.inl h
    · exact Or.inr ⟨f', e, h1, h2, h3⟩
  | succ rem ih =>
    intro w r f hr hw h
    obtain ⟨w, rfl⟩ : ∃ w', w = w' + 1 := ⟨w - 1, by omega⟩
    have hcc : ((r : Nat) : Int) + 1 = ((r + 1 : Nat) : Int) := by omega
    have hb := hbd r c (by omega) (by omega)
    unfold F1_leaving_b4
    rw [if_neg (by rw [i3_le (by omega) (by omega) (by omega) (by omega)]; omega), xg_in _ (by omega) (by omega) (by omega), xg_in _ (by omega) (by omega) (by omega), i3_xnN (by omega), i3_xnN (by omega), hT.1 r c (by omega) (by omega)]
    by_cases hp : 0 < s.1 r c
    · rw [i6_l0, cmp_gt (by omega) (by omega) (by omega) (by omega) hp, if_neg (by decide)]
      rcases h with ⟨e, h⟩ | ⟨f', e, h1, h2, h3⟩
      · subst e
        rw [if_pos i3_m1.symm]
        unfold F1_leaving_b40 F1_leaving_b42
        simp only
        rw [i3_l1, i3_add, hcc]
        refine ih w (r + 1) r (by omega) (by omega) (Or.inr ⟨r, rfl, by omega, hp, fun i hi hpi => ?_⟩)
        by_cases e : i = r
        · rw [e]; exact Or.inr ⟨rfl, Nat.le_refl _⟩
        · have := h i (by omega); omega
      · subst e
        rw [if_neg (by rw [i3_m1, i3_eq (by omega) (by omega) (by omega) (by omega)]; omega)]
        by_cases hs : s.1 r n * s.1 f' c < s.1 f' n * s.1 r c ∨ (s.1 r n * s.1 f' c = s.1 f' n * s.1 r c ∧ s.2.2.1 r < s.2.2.1 f')
        · rw [(F1_isSooner_ok hB hT (show r < m by omega) (show f' < m by omega) hc).1 hs]
          simp only [Option.bind_some]
          rw [if_neg (by decide)]
          unfold F1_leaving_b40 F1_leaving_b42
          simp only
          rw [i3_l1, i3_add, hcc]
          refine ih w (r + 1) r (by omega) (by omega) (Or.inr ⟨r, rfl, by omega, hp, fun i hi hpi => ?_⟩)
          by_cases e : i = r
          · rw [e]; exact Or.inr ⟨rfl, Nat.le_refl _⟩
          · have h4 := h3 i (by omega) hpi
            have t := frac_trans hp h2 hpi (show s.1 r n * s.1 f' c ≤ s.1 f' n * s.1 r c by omega) (show s.1 f' n * s.1 i c ≤ s.1 i n * s.1 f' c by omega)
            rcases hs with q | q
            · exact Or.inl (t.2 (Or.inl q))
            · rcases h4 with q2 | q2
              · exact Or.inl (t.2 (Or.inr q2))
              · by_cases q3 : s.1 r n * s.1 i c < s.1 i n * s.1 r c
                · exact Or.inl q3
                · exact Or.inr ⟨by have := t.1; omega, by omega⟩
        · rw [(F1_isSooner_ok hB hT (show r < m by omega) (show f' < m by omega) hc).2 hs]
          simp only [Option.bind_some, if_true]
          unfold F1_leaving_b42
          rw [i3_l1, i3_add, hcc]
          refine ih w (r + 1) f' (by omega) (by omega) (Or.inr ⟨f', rfl, by omega, h2, fun i hi hpi => ?_⟩)
          by_cases e : i = r
          · rw [e]
            have e2 : s.1 f' n * s.1 r c = s.1 f' n * s.1 r c := rfl
            by_cases q3 : s.1 f' n * s.1 r c < s.1 r n * s.1 f' c
            · exact Or.inl q3
            · refine Or.inr ⟨?_, ?_⟩
              · have : ¬ s.1 r n * s.1 f' c < s.1 f' n * s.1 r c := fun q => hs (Or.inl q)
                omega
              · have h5 : ¬ s.1 r n * s.1 f' c < s.1 f' n * s.1 r c := fun q => hs (Or.inl q)
                have h6 : s.1 r n * s.1 f' c = s.1 f' n * s.1 r c := by omega
                have h7 : ¬ s.2.2.1 r < s.2.2.1 f' := fun q => hs (Or.inr ⟨h6, q⟩)
                omega
          · exact h3 i (by omega) hpi
    · have hle : lg_cmp (i6 (s.1 r c)) 0 ≤ 0 := by
        rw [i6_l0]
        by_cases q : s.1 r c = 0
        · rw [q, cmp_eq]; decide
        · rw [cmp_lt (by omega) (by omega) (by omega) (by omega) (by omega)]; decide
      rw [if_pos hle]
      unfold F1_leaving_b42
      simp only
      rw [i3_l1, i3_add, hcc]
      refine ih w (r + 1) f (by omega) (by omega) ?_
      rcases h with ⟨e, h⟩ | ⟨f', e, h1, h2, h3⟩
      · exact Or.inl ⟨e, fun i hi => by
          by_cases e2 : i = r
          · rw [e2]; omega
          · exact h i (by omega)⟩
      · exact Or.inr ⟨f', e, by omega, h2, fun i hi hpi => by
          by_cases e2 : i = r
          · rw [e2] at hpi; omega
          · exact h3 i (by omega) hpi⟩
theorem F1_leaving_ok {z m n : Nat} {s : SS} {table : Nat → Nat → Int64} {rowN colN : Nat → Int32} {scale : Int64} (hB : SB m n s) (hT : TR m n s table rowN colN scale) (hz : 10 ≤ z) {c : Nat} (hc : c < n) : ∃ f2 : Int, F1_leaving z (i3 c) table rowN (i3 m) (i3 n) = some (i3 f2) ∧ ((f2 = -1 ∧ ∀ i, i < m → s.1 i c ≤ 0) ∨ (∃ f' : Nat, f2 = f' ∧ Lea m n s c f')) :=
  F1_leaving_b4_ok hB hT hc m z 0 (-1) (by omega) (by have := hB.1; omega) (Or.inl ⟨rfl, fun j hj => by omega⟩)
/-- the middle of an exchange -/
def exm (s : SS) (r c i j : Nat) : Int := if i = r ∨ j = c then s.1 i j else (s.1 i j * s.1 r c - s.1 i c * s.1 r j).tdiv s.2.1
theorem F1_exchange_b34_ok {z m n : Nat} {s : SS} {rowN colN : Nat → Int32} (hB : SB m n s) {r c : Nat} (hr : r < m) (hc : c < n) {i : Nat} (hi : i < m + 1) (hir : i ≠ r) (k22 : Int32 → Int32 → Int64 → Int32 → (Nat → Nat → Int64) → (Nat → Int32) → (Nat → Int32) → Int32 → Int32 → Int64 → Option ((Nat → Nat → Int64) × (Nat → Int32) × (Nat → Int32) × Int64)) : ∀ (rem w j : Nat) (table : Nat → Nat → Int64), j + rem = n + 1 → rem < w → (∀ a b, a < m + 1 → b < n + 1 → table a b = i6 (if a < i ∨ (a = i ∧ b < j) then exm s r c a b else s.1 a b)) → ∃ table', F1_exchange_b34 z w (i3 r) (i3 c) (i6 (s.1 r c)) (i3 i) (i3 j) table rowN colN (i3 m) (i3 n) (i6 s.2.1) k22 = k22 (i3 r) (i3 c) (i6 (s.1 r c)) (i3 ((i + 1 : Nat) : Int)) table' rowN colN (i3 m) (i3 n) (i6 s.2.1) ∧ (∀ a b, a < m + 1 → b < n + 1 → table' a b = i6 (if a < i + 1 then exm s r c a b else s.1 a b)) := by
  obtain ⟨hm, hn, hm0, hn0, hN, hbd, hsc, hsc2⟩ := hB
  intro rem
  induction rem with
  | zero =>
    intro w j table hj hw hP
    obtain ⟨w, rfl⟩ : ∃ w', w = w' + 1 := ⟨w - 1, by omega⟩
    refine ⟨table, ?_, fun a b ha hb => ?_⟩
    · unfold F1_exchange_b34 F1_exchange_b108
      rw [if_pos (by rw [i3_lt (by omega) (by omega) (by omega) (by omega)]; omega), i3_l1, i3_add]
      rfl
    · rw [hP a b ha hb]
      by_cases h : a < i + 1
      · rw [if_pos (by omega), if_pos h]
      · rw [if_neg (by omega), if_neg h]
  | succ rem ih =>
    intro w j table hj hw hP
    obtain ⟨w, rfl⟩ : ∃ w', w = w' + 1 := ⟨w - 1, by omega⟩
    have hcc : ((j : Nat) : Int) + 1 = ((j + 1 : Nat) : Int) := by omega
    unfold F1_exchange_b34 F1_exchange_b102
    rw [if_neg (by rw [i3_lt (by omega) (by omega) (by omega) (by omega)]; omega), if_neg (by rw [i3_eq (by omega) (by omega) (by omega) (by omega)]; omega)]
    by_cases hjc : j = c
    · subst hjc
      rw [if_pos rfl, i3_l1, i3_add, hcc]
      refine ih w (j + 1) table (by omega) (by omega) (fun a b ha hb => ?_)
      rw [hP a b ha hb]
      congr 1
      by_cases h : a < i ∨ (a = i ∧ b < j)
      · rw [if_pos h, if_pos (by omega)]
      · rw [if_neg h]
        by_cases h2 : a = i ∧ b = j
        · rw [if_pos (by omega)]
          unfold exm
          rw [if_pos (Or.inr h2.2)]
        · rw [if_neg (by omega)]
    · rw [if_neg (by rw [i3_eq (by omega) (by omega) (by omega) (by omega)]; omega)]
      simp (disch := omega) only [xg_in, i3_xnN]
      have b1 := hbd i j (by omega) (by omega)
      have b2 := hbd r c (by omega) (by omega)
      have b3 := hbd i c (by omega) (by omega)
      have b4 := hbd r j (by omega) (by omega)
      have p1 := prod_bd b1.1 b1.2 b2.1 b2.2
      have p2 := prod_bd b3.1 b3.2 b4.1 b4.2
      have t1 : table i j = i6 (s.1 i j) := by rw [hP i j hi (by omega), if_neg (by omega)]
      have t2 : table i c = i6 (s.1 i c) := by
        rw [hP i c hi (by omega)]
        congr 1
        split
        · unfold exm; rw [if_pos (Or.inr rfl)]
        · rfl
      have t3 : table r j = i6 (s.1 r j) := by
        rw [hP r j (by omega) (by omega)]
        congr 1
        split
        · unfold exm; rw [if_pos (Or.inl rfl)]
        · rfl
      rw [xnzl_i6 _ (by omega) (by omega) (by omega), t1, t2, t3, i6_mul, i6_mul, i6_sub, i6_div (by omega) (by omega) (by omega) (by omega), i3_l1, i3_add, hcc]
      refine ih w (j + 1) _ (by omega) (by omega) (fun a b ha hb => ?_)
      rw [tup]
      by_cases h2 : a = i ∧ b = j
      · rw [if_pos h2, if_pos (by omega), h2.1, h2.2]
        unfold exm
        rw [if_neg (by omega)]
      · rw [if_neg h2, hP a b ha hb]
        congr 1
        by_cases h : a < i ∨ (a = i ∧ b < j)
        · rw [if_pos h, if_pos (by omega)]
        · rw [if_neg h, if_neg (by omega)]
/-- the column that is turned round, and the end -/
theorem F1_exchange_b117_ok {z m n : Nat} {s : SS} {rowN colN : Nat → Int32} (hB : SB m n s) {r c : Nat} (hr : r < m) (hc : c < n) (hrn : ∀ i, i < m → rowN i = i3 (s.2.2.1 i : Nat)) (hcn : ∀ j, j < n → colN j = i3 (s.2.2.2 j : Nat)) : ∀ (rem w i : Nat) (table : Nat → Nat → Int64), i + rem = m + 1 → rem < w → (∀ a b, a < m + 1 → b < n + 1 → table a b = i6 (if b = c ∧ a < i then - s.1 a c else exm s r c a b)) → ∃ table' rowN' colN', F1_exchange_b117 z w (i3 r) (i3 c) (i6 (s.1 r c)) (i3 i) table rowN colN (i3 m) (i3 n) (i6 s.2.1) = some (table', rowN', colN', i6 (s.1 r c)) ∧ TR m n (exs m n s r c) table' rowN' colN' (i6 (s.1 r c)) := by
  obtain ⟨hm, hn, hm0, hn0, hN, hbd, hsc, hsc2⟩ := hB
  intro rem
  induction rem with
  | zero =>
    intro w i table hi hw hP
    obtain ⟨w, rfl⟩ : ∃ w', w = w' + 1 := ⟨w - 1, by omega⟩
    refine ⟨va_up table r (vp_updL (table r) c (i6 s.2.1)), upd rowN r (colN c), upd colN c (rowN r), ?_, ?_, ?_, ?_, rfl⟩
    · unfold F1_exchange_b117 F1_exchange_b151
      rw [if_pos (by rw [i3_lt (by omega) (by omega) (by omega) (by omega)]; omega)]
      simp (disch := omega) only [xg_in, i3_xnN]
    · intro a b ha hb
      rw [tup]
      show _ = i6 (if a = r then (if b = c then s.2.1 else s.1 r b) else (if b = c then - s.1 a c else (s.1 a b * s.1 r c - s.1 a c * s.1 r b).tdiv s.2.1))
      by_cases h1 : a = r
      · by_cases h2 : b = c
        · rw [if_pos ⟨h1, h2⟩, if_pos h1, if_pos h2]
        · rw [if_neg (by omega), if_pos h1, if_neg h2, hP a b ha hb, if_neg (by omega)]
          unfold exm
          rw [if_pos (Or.inl h1), h1]
      · rw [if_neg (by omega), if_neg h1, hP a b ha hb]
        by_cases h2 : b = c
        · rw [if_pos ⟨h2, by omega⟩, if_pos h2]
        · rw [if_neg (by omega), if_neg h2]
          unfold exm
          rw [if_neg (by omega)]
    · intro a ha
      show upd rowN r (colN c) a = i3 (upn s.2.2.1 r (s.2.2.2 c) a : Nat)
      unfold upd upn
      by_cases h : a = r
      · rw [if_pos h, if_pos h, hcn c hc]
      · rw [if_neg h, if_neg h, hrn a ha]
    · intro a ha
      show upd colN c (rowN r) a = i3 (upn s.2.2.2 c (s.2.2.1 r) a : Nat)
      unfold upd upn
      by_cases h : a = c
      · rw [if_pos h, if_pos h, hrn r hr]
      · rw [if_neg h, if_neg h, hcn a ha]
  | succ rem ih =>
    intro w i table hi hw hP
    obtain ⟨w, rfl⟩ : ∃ w', w = w' + 1 := ⟨w - 1, by omega⟩
    have hcc : ((i : Nat) : Int) + 1 = ((i + 1 : Nat) : Int) := by omega
    unfold F1_exchange_b117
    rw [if_neg (by rw [i3_lt (by omega) (by omega) (by omega) (by omega)]; omega)]
    simp (disch := omega) only [xg_in, i3_xnN]
    rw [i3_l1, i3_add, hcc]
    refine ih w (i + 1) _ (by omega) (by omega) (fun a b ha hb => ?_)
    rw [tup, hP i c (by omega) (by omega), if_neg (show ¬ (c = c ∧ i < i) by omega), i6_neg]
    by_cases h2 : a = i ∧ b = c
    · rw [if_pos h2, if_pos (by omega), h2.1]
      unfold exm
      rw [if_pos (Or.inr rfl)]
    · rw [if_neg h2, hP a b ha hb]
      congr 1
      by_cases h : b = c ∧ a < i
      · rw [if_pos h, if_pos (by omega)]
      · rw [if_neg h, if_neg (by omega)]
theorem F1_exchange_b22_ok {z m n : Nat} {s : SS} {rowN colN : Nat → Int32} (hz : 10 ≤ z) (hB : SB m n s) {r c : Nat} (hr : r < m) (hc : c < n) (hrn : ∀ i, i < m → rowN i = i3 (s.2.2.1 i : Nat)) (hcn : ∀ j, j < n → colN j = i3 (s.2.2.2 j : Nat)) : ∀ (rem w i : Nat) (table : Nat → Nat → Int64), i + rem = m + 1 → rem < w → (∀ a b, a < m + 1 → b < n + 1 → table a b = i6 (if a < i then exm s r c a b else s.1 a b)) → ∃ table' rowN' colN', F1_exchange_b22 z w (i3 r) (i3 c) (i6 (s.1 r c)) (i3 i) table rowN colN (i3 m) (i3 n) (i6 s.2.1) = some (table', rowN', colN', i6 (s.1 r c)) ∧ TR m n (exs m n s r c) table' rowN' colN' (i6 (s.1 r c)) := by
  have hm := hB.1
  have hn := hB.2.1
  intro rem
  induction rem with
  | zero =>
    intro w i table hi hw hP
    obtain ⟨w, rfl⟩ : ∃ w', w = w' + 1 := ⟨w - 1, by omega⟩
    unfold F1_exchange_b22 F1_exchange_b114
    rw [if_pos (by rw [i3_lt (by omega) (by omega) (by omega) (by omega)]; omega)]
    refine F1_exchange_b117_ok hB hr hc hrn hcn (m + 1) z 0 table (by omega) (by omega) (fun a b ha hb => ?_)
    rw [hP a b ha hb, if_pos (by omega), if_neg (by omega)]
  | succ rem ih =>
    intro w i table hi hw hP
    obtain ⟨w, rfl⟩ : ∃ w', w = w' + 1 := ⟨w - 1, by omega⟩
    unfold F1_exchange_b22
    rw [if_neg (by rw [i3_lt (by omega) (by omega) (by omega) (by omega)]; omega)]
    by_cases hir : i = r
    · subst hir
      obtain ⟨z', rfl⟩ : ∃ z', z = z' + 1 := ⟨z - 1, by omega⟩
      unfold F1_exchange_b34 F1_exchange_b108
      rw [if_neg (by show ¬ i3 (n : Int) < i3 0; rw [i3_lt (by omega) (by omega) (by omega) (by omega)]; omega), if_pos rfl, i3_l1, i3_add]
      refine ih w (i + 1) table (by omega) (by omega) (fun a b ha hb => ?_)
      rw [hP a b ha hb]
      congr 1
      by_cases h : a < i
      · rw [if_pos h, if_pos (by omega)]
      · rw [if_neg h]
        by_cases h2 : a = i
        · rw [if_pos (by omega)]
          unfold exm
          rw [if_pos (Or.inl h2)]
        · rw [if_neg (by omega)]
    · obtain ⟨table', e, hP'⟩ := F1_exchange_b34_ok (z := z) (rowN := rowN) (colN := colN) hB hr hc (show i < m + 1 by omega) hir (fun q0 q1 q2 q3 q4 q5 q6 q7 q8 q9 => F1_exchange_b22 z w q0 q1 q2 q3 q4 q5 q6 q7 q8 q9) (n + 1) z 0 table (by omega) (by omega) (fun a b ha hb => by
        rw [hP a b ha hb]
        congr 1
        by_cases h : a < i
        · rw [if_pos h, if_pos (by omega)]
        · rw [if_neg h, if_neg (by omega)])
      rw [show (0 : Int32) = i3 ((0 : Nat) : Int) from rfl, e]
      exact ih w (i + 1) table' (by omega) (by omega) hP'
theorem F1_exchange_ok {z m n : Nat} {s : SS} {table : Nat → Nat → Int64} {rowN colN : Nat → Int32} {scale : Int64} (hz : 10 ≤ z) (hB : SB m n s) (hT : TR m n s table rowN colN scale) {r c : Nat} (hr : r < m) (hc : c < n) : ∃ table' rowN' colN', F1_exchange z (i3 r) (i3 c) table rowN colN (i3 m) (i3 n) scale = some (table', rowN', colN', i6 (s.1 r c)) ∧ TR m n (exs m n s r c) table' rowN' colN' (i6 (s.1 r c)) := by
  have hm := hB.1
  have hn := hB.2.1
  have h1 := hB.2.2.2.2.2.2.1
  have h2 := hB.2.2.2.2.2.2.2
  obtain ⟨hT1, hT2, hT3, rfl⟩ := hT
  unfold F1_exchange
  rw [xg_in _ (by omega) (by omega) (by omega), xg_in _ (by omega) (by omega) (by omega), i6_l0, cmp_gt (by omega) (by omega) (by omega) (by omega) h1, if_neg (by decide), i3_xnN (by omega), i3_xnN (by omega), hT1 r c (by omega) (by omega)]
  exact F1_exchange_b22_ok hz hB hr hc hT2 hT3 (m + 1) z 0 table (by omega) (by omega) (fun a b ha hb => by rw [hT1 a b ha hb, if_neg (by omega)])
