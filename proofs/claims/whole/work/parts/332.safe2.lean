theorem n10 : ¬ (1 : Int32) = 0 := by decide
/-- the least, as a number -/
def mv (f : Nat → Int) : Nat → Int
  | 0 => 8
  | k + 1 => if f k < mv f k then f k else mv f k
theorem mv_isMin {f : Nat → Int} (hf : ∀ k, f k ≤ 8) : ∀ N, 0 < N → isMin f N (mv f N)
  | 0, h => by omega
  | 1, _ => by
    show isMin f 1 (if f 0 < 8 then f 0 else 8)
    have h0 := hf 0
    by_cases q : f 0 < 8
    · rw [if_pos q]; exact ⟨fun k hk => by rw [show k = 0 by omega]; exact Int.le_refl _, 0, by omega, rfl⟩
    · rw [if_neg q]; exact ⟨fun k hk => by rw [show k = 0 by omega]; omega, 0, by omega, by omega⟩
  | N + 2, _ => by
    obtain ⟨h1, k0, hk0, e0⟩ := mv_isMin hf (N + 1) (by omega)
    show isMin f (N + 2) (if f (N + 1) < mv f (N + 1) then f (N + 1) else mv f (N + 1))
    by_cases q : f (N + 1) < mv f (N + 1)
    · rw [if_pos q]
      exact ⟨fun k hk => by
        by_cases e : k = N + 1
        · rw [e]; exact Int.le_refl _
        · have := h1 k (by omega); omega, N + 1, by omega, rfl⟩
    · rw [if_neg q]
      exact ⟨fun k hk => by
        by_cases e : k = N + 1
        · rw [e]; omega
        · exact h1 k (by omega), k0, by omega, e0⟩
theorem safest9 {z K : Nat} (hz : 1000 ≤ z) {W : Nat → Int} {t : Int} {fo : Nat → Nat} {fields ties : Int32} {worth forces many : Nat → Int32} {codes : Nat → Nat → Int32} (hX : SX K W t fo fields ties worth forces many codes) {s : Nat} (hs : s < 2) : ∀ (rem w i : Nat) (b : Int), i + rem = ns K (fo s) → rem < w → -8 ≤ b → b ≤ 8 → (∀ k, k < i → mv (gsd K W t fo s k) (ns K (fo (1 - s))) ≤ b) → ((i = 0 ∧ b = -8) ∨ ∃ k, k < ns K (fo s) ∧ b = mv (gsd K W t fo s k) (ns K (fo (1 - s)))) → ∃ v, F9_safest_b5 z w (i3 s) (i3 b) (i3 i) fields ties worth many codes = some (i3 v) ∧ (∀ k, k < ns K (fo s) → mv (gsd K W t fo s k) (ns K (fo (1 - s))) ≤ v) ∧ ∃ k, k < ns K (fo s) ∧ v = mv (gsd K W t fo s k) (ns K (fo (1 - s))) := by
  have hV := hX.1
  have n0 := ns_bd hV (hX.2.1 s hs)
  have n1 := ns_bd hV (hX.2.1 (1 - s) (by omega))
  have hm := hX.2.2.2.2.2.2.1 s hs
  intro rem
  induction rem with
  | zero =>
    intro w i b hi hw b1 b2 hb hex
    obtain ⟨w, rfl⟩ : ∃ w', w = w' + 1 := ⟨w - 1, by omega⟩
    refine ⟨b, ?_, fun k hk => hb k (by omega), ?_⟩
    · unfold F9_safest_b5
      rw [xg_in _ (by omega) (by omega) (by omega), i3_xnN (by omega), hm, if_pos (by rw [i3_le (by omega) (by omega) (by omega) (by omega)]; omega)]
    · rcases hex with q | q
      · omega
      · exact q
  | succ rem ih =>
    intro w i b hi hw b1 b2 hb hex
    obtain ⟨w, rfl⟩ : ∃ w', w = w' + 1 := ⟨w - 1, by omega⟩
    have hcc : ((i : Nat) : Int) + 1 = ((i + 1 : Nat) : Int) := by omega
    unfold F9_safest_b5
    rw [xg_in _ (by omega) (by omega) (by omega), i3_xnN (by omega), hm, if_neg (by rw [i3_le (by omega) (by omega) (by omega) (by omega)]; omega)]
    obtain ⟨v, e, v1, v2, hv⟩ := F4_leastGain_b7_ok (show 10 ≤ z by omega) hX hs (show i < ns K (fo s) by omega) (en := b) ⟨b1, b2⟩ (ns K (fo (1 - s))) z 0 8 (by omega) (by omega) (by omega) (by omega) (fun k' hk' => by omega) (Or.inl ⟨rfl, rfl⟩)
    have e' : F4_leastGain z (i3 s) (i3 i) (i3 b) fields ties worth many codes = some (i3 v) := e
    rw [e']
    simp only [Option.bind_some]
    rw [i3_l1, i3_add, hcc]
    have hmin := mv_isMin (f := gsd K W t fo s i) (fun k => (gsd_bd (fo := fo) hV s i k).2) (ns K (fo (1 - s))) n1.2
    have hv2 : (v = mv (gsd K W t fo s i) (ns K (fo (1 - s)))) ∨ (v ≤ b ∧ mv (gsd K W t fo s i) (ns K (fo (1 - s))) ≤ v) := by
      rcases hv with q | q
      · exact Or.inl (isMin_uniq q hmin)
      · exact Or.inr ⟨q.1, q.2 _ hmin⟩
    by_cases q : b < v
    · have ev : v = mv (gsd K W t fo s i) (ns K (fo (1 - s))) := by
        rcases hv2 with q2 | q2
        · exact q2
        · omega
      rw [if_pos (by rw [i3_lt (by omega) (by omega) (by omega) (by omega)]; exact q)]
      exact ih w (i + 1) v (by omega) (by omega) v1 v2 (fun k hk => by
        by_cases e2 : k = i
        · rw [e2]; omega
        · have := hb k (by omega); omega) (Or.inr ⟨i, by omega, ev⟩)
    · rw [if_neg (by rw [i3_lt (by omega) (by omega) (by omega) (by omega)]; exact q)]
      refine ih w (i + 1) b (by omega) (by omega) b1 b2 (fun k hk => by
        by_cases e2 : k = i
        · rw [e2]; omega
        · exact hb k (by omega)) (Or.inr ?_)
      rcases hex with ⟨-, q2⟩ | q2
      · refine ⟨i, by omega, ?_⟩
        obtain ⟨-, k0, hk0, e0⟩ := hmin
        have := gsd_bd (fo := fo) hV s i k0
        omega
      · exact q2
theorem safest10 {z K : Nat} (hz : 1000 ≤ z) {W : Nat → Int} {t : Int} {fo : Nat → Nat} {told many eights gains : Nat → Int32} (hM : SM K W t fo told many eights gains) {s : Nat} (hs : s < 2) : ∀ (rem w i : Nat) (b : Int), i + rem = ns K (fo s) → rem < w → -1000000 ≤ b → b ≤ 8 → (∀ k, k < i → mv (gsd K W t fo s k) (ns K (fo (1 - s))) ≤ b) → ((i = 0 ∧ b = -1000000) ∨ ∃ k, k < ns K (fo s) ∧ b = mv (gsd K W t fo s k) (ns K (fo (1 - s)))) → ∃ v, F10_safe_b47 z w (i3 s) (i3 b) (i3 i) 0 many gains = some (i3 v, 0) ∧ (∀ k, k < ns K (fo s) → mv (gsd K W t fo s k) (ns K (fo (1 - s))) ≤ v) ∧ ∃ k, k < ns K (fo s) ∧ v = mv (gsd K W t fo s k) (ns K (fo (1 - s))) := by
  have hV := hM.1
  have n0 := ns_bd hV (hM.2.1 s hs)
  have n1 := ns_bd hV (hM.2.1 (1 - s) (by omega))
  have hm := hM.2.2.2.2.2.2.1 s hs
  intro rem
  induction rem with
  | zero =>
    intro w i b hi hw b1 b2 hb hex
    obtain ⟨w, rfl⟩ : ∃ w', w = w' + 1 := ⟨w - 1, by omega⟩
    refine ⟨b, ?_, fun k hk => hb k (by omega), ?_⟩
    · unfold F10_safe_b47
      rw [xg_in _ (by omega) (by omega) (by omega), i3_xnN (by omega), hm, if_pos (by rw [i3_le (by omega) (by omega) (by omega) (by omega)]; omega)]
    · rcases hex with q | q
      · omega
      · exact q
  | succ rem ih =>
    intro w i b hi hw b1 b2 hb hex
    obtain ⟨w, rfl⟩ : ∃ w', w = w' + 1 := ⟨w - 1, by omega⟩
    have hcc : ((i : Nat) : Int) + 1 = ((i + 1 : Nat) : Int) := by omega
    unfold F10_safe_b47 F10_safe_b80
    rw [xg_in _ (by omega) (by omega) (by omega), i3_xnN (by omega), hm, if_neg (by rw [i3_le (by omega) (by omega) (by omega) (by omega)]; omega)]
    obtain ⟨v, e, hv⟩ := F10_safeOf_ok (show 200 ≤ z by omega) hM hs (show i < ns K (fo s) by omega)
    rw [e]
    simp only [Option.bind_some]
    rw [i3_l1, i3_add, hcc]
    have hmin := mv_isMin (f := gsd K W t fo s i) (fun k => (gsd_bd (fo := fo) hV s i k).2) (ns K (fo (1 - s))) n1.2
    have ev := isMin_uniq hv hmin
    have hvb : -8 ≤ v ∧ v ≤ 8 := by
      obtain ⟨-, k0, hk0, e0⟩ := hv
      have := gsd_bd (fo := fo) hV s i k0
      omega
    by_cases q : v ≤ b
    · rw [if_pos (by rw [i3_le (by omega) (by omega) (by omega) (by omega)]; exact q)]
      refine ih w (i + 1) b (by omega) (by omega) b1 b2 (fun k hk => by
        by_cases e2 : k = i
        · rw [e2]; omega
        · exact hb k (by omega)) (Or.inr ?_)
      rcases hex with ⟨-, q2⟩ | q2
      · omega
      · exact q2
    · rw [if_neg (by rw [i3_le (by omega) (by omega) (by omega) (by omega)]; exact q)]
      exact ih w (i + 1) v (by omega) (by omega) (by omega) hvb.2 (fun k hk => by
        by_cases e2 : k = i
        · rw [e2]; omega
        · have := hb k (by omega); omega) (Or.inr ⟨i, by omega, ev⟩)
theorem call_safe {z K : Nat} (hz : 1000 ≤ z) {W : Nat → Int} {t : Int} {fo : Nat → Nat} {fields ties : Int32} {worth forces many : Nat → Int32} {codes : Nat → Nat → Int32} (hX : SX K W t fo fields ties worth forces many codes) {told many' eights gains : Nat → Int32} (hM : SM K W t fo told many' eights gains) (x1 x2 thrown : Int32) : ∃ v, F9_safe z x1 x2 fields ties worth many codes = some v ∧ F10_safe z x1 x2 thrown many' gains = some (v, 0) := by
  obtain ⟨a, rfl, h1, h2⟩ := i3_ex x1
  obtain ⟨b, rfl, h3, h4⟩ := i3_ex x2
  have hV := hX.1
  have no : ¬ isp K fo a b → F9_safe_b18 z (i3 a) (i3 b) fields ties worth many codes = some (-100) := fun q => by
    unfold F9_safe_b18
    rw [isSplit4_no hX h1 h2 h3 h4 q]
    rfl
  unfold F9_safe F10_safe
  rw [isSide9 a h1 h2, isSide10 a h1 h2]
  simp only [Option.bind_some]
  by_cases e : a = 0 ∨ a = 1
  · rw [if_pos e, if_neg n10, if_neg n10]
    obtain ⟨s, hs, ea⟩ : ∃ s : Nat, s < 2 ∧ a = s := ⟨a.toNat, by omega, by omega⟩
    subst ea
    have n0 := ns_bd hV (hX.2.1 s hs)
    have n1 := ns_bd hV (hX.2.1 (1 - s) (by omega))
    by_cases eb : b = -1
    · subst eb
      rw [if_pos i3_m1.symm, if_pos i3_m1.symm]
      unfold F10_safe_b29
      rw [if_pos i3_m1.symm]
      obtain ⟨v, e1, m1, k1, hk1, q1⟩ := safest9 hz hX hs (ns K (fo s)) z 0 (-8) (by omega) (by omega) (by omega) (by omega) (fun k hk => by omega) (Or.inl ⟨rfl, rfl⟩)
      obtain ⟨v', e2, m2, k2, hk2, q2⟩ := safest10 hz hM hs (ns K (fo s)) z 0 (-1000000) (by omega) (by omega) (by omega) (by omega) (fun k hk => by omega) (Or.inl ⟨rfl, rfl⟩)
      have ev : v = v' := by
        have := m1 k2 hk2
        have := m2 k1 hk1
        omega
      subst ev
      have e1' : F9_safest z (i3 s) fields ties worth many codes = some (i3 v) := e1
      rw [e1']
      exact ⟨i3 v, rfl, e2⟩
    · rw [if_neg (by rw [i3_m1, i3_eq (by omega) (by omega) (by omega) (by omega)]; exact eb), if_neg (by rw [i3_m1, i3_eq (by omega) (by omega) (by omega) (by omega)]; exact eb)]
      by_cases q : isp K fo s b
      · obtain ⟨s', i, es, rfl, hs', hi⟩ := q
        have es' : s = s' := by omega
        subst es'
        unfold F9_safe_b18 F10_safe_b29
        rw [isSplit4_yes hX hs hi, isSplit10_yes hM hs hi]
        simp only [Option.bind_some]
        rw [if_neg (by decide), if_neg (by decide), if_neg (by rw [i3_m1, i3_eq (by omega) (by omega) (by omega) (by omega)]; exact eb)]
        obtain ⟨v, ev, v1, v2, hv⟩ := F4_leastGain_b7_ok (show 10 ≤ z by omega) hX hs hi (en := -8) ⟨by omega, by omega⟩ (ns K (fo (1 - s))) z 0 8 (by omega) (by omega) (by omega) (by omega) (fun k' hk' => by omega) (Or.inl ⟨rfl, rfl⟩)
        obtain ⟨v', ev', hv'⟩ := F10_safeOf_ok (show 200 ≤ z by omega) hM hs hi
        have eq : v = v' := by
          rcases hv with q | q
          · exact isMin_uniq q hv'
          · have := q.2 _ hv'
            obtain ⟨-, k0, hk0, e0⟩ := hv'
            have := gsd_bd (fo := fo) hV s i k0
            omega
        subst eq
        have e1' : F4_leastGain z (i3 s) (i3 i) (-8) fields ties worth many codes = some (i3 v) := ev
        rw [e1', ev']
        exact ⟨i3 v, rfl, rfl⟩
      · rw [no q, isSplit10_no hM h1 h2 h3 h4 q]
        exact ⟨_, rfl, rfl⟩
  · rw [if_neg e, no (fun q => by
      obtain ⟨s, i, es, -, hs, -⟩ := q
      omega)]
    exact ⟨_, rfl, rfl⟩
