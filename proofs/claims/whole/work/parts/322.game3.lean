/-! ===== the class's game: its start, its run ===== -/
/-- the game of two rows of splits, seen from a side: what the column's gains against the row's -/
def gg (K : Nat) (W : Nat → Int) (t : Int) (fo : Nat → Nat) (pk : Nat → Nat → Nat) (s r c : Nat) : Int := gsd K W t fo s (pk s c) (pk (1 - s) r)
/-- picks as the class holds them -/
def PK (K : Nat) (fo : Nat → Nat) (pk : Nat → Nat → Nat) (mm : Nat → Nat) (picks : Nat → Nat → Int32) (many : Nat → Int32) : Prop := (∀ s, s < 2 → 0 < mm s ∧ mm s < 7 ∧ many s = i3 (mm s : Nat)) ∧ (∀ s k, s < 2 → k < mm s → picks s k = i3 (pk s k : Nat) ∧ pk s k < ns K (fo s))
theorem F1_fill_b61_ok {z K : Nat} {W : Nat → Int} {t : Int} {fo : Nat → Nat} {fields ties : Int32} {worth forces many : Nat → Int32} {codes : Nat → Nat → Int32} (hX : SX K W t fo fields ties worth forces many codes) (hz : 10 ≤ z) {pk : Nat → Nat → Nat} {mm : Nat → Nat} {picks : Nat → Nat → Int32} {gmany : Nat → Int32} (hP : PK K fo pk mm picks gmany) {s : Nat} (hs : s < 2) {c : Nat} (hc : c < mm s) {rowN colN : Nat → Int32} {sc : Int64} (k29 : Int32 → Int32 → (Nat → Nat → Int32) → (Nat → Int32) → (Nat → Nat → Int64) → (Nat → Int32) → (Nat → Int32) → Int32 → Int32 → Int64 → Int32 → Int32 → (Nat → Int32) → (Nat → Nat → Int32) → Option ((Nat → Nat → Int64) × (Nat → Int32) × (Nat → Int32) × Int32 × Int32 × Int64)) : ∀ (rem w r : Nat) (table : Nat → Nat → Int64), r + rem = mm (1 - s) → rem < w → ∃ table', F1_fill_b61 z w (i3 s) (i3 c) (i3 r) picks gmany table rowN colN (i3 (mm (1 - s) : Nat)) (i3 (mm s : Nat)) sc fields ties worth codes k29 = k29 (i3 s) (i3 ((c + 1 : Nat) : Int)) picks gmany table' rowN colN (i3 (mm (1 - s) : Nat)) (i3 (mm s : Nat)) sc fields ties worth codes ∧ ∀ a b, table' a b = if b = c ∧ r ≤ a ∧ a < mm (1 - s) then i6 (9 - gg K W t fo pk s a c) else table a b := by
  have hs' : 1 - s < 2 := by omega
  obtain ⟨m1, m2, m3⟩ := hP.1 (1 - s) hs'
  obtain ⟨n1, n2, n3⟩ := hP.1 s hs
  intro rem
  induction rem with
  | zero =>
    intro w r table hr hw
    obtain ⟨w, rfl⟩ : ∃ w', w = w' + 1 := ⟨w - 1, by omega⟩
    refine ⟨table, ?_, fun a b => by rw [if_neg (by omega)]⟩
    unfold F1_fill_b61 F1_fill_b113
    rw [if_pos (by rw [i3_le (by omega) (by omega) (by omega) (by omega)]; omega), i3_l1, i3_add]
    rfl
  | succ rem ih =>
    intro w r table hr hw
    obtain ⟨w, rfl⟩ : ∃ w', w = w' + 1 := ⟨w - 1, by omega⟩
    have hcc : ((r : Nat) : Int) + 1 = ((r + 1 : Nat) : Int) := by omega
    have e1 : (1 : Int32) - i3 (s : Int) = i3 ((1 - s : Nat) : Int) := by
      rw [i3_l1, i3_sub]; congr 1; omega
    have hp1 := hP.2 s c hs hc
    have hp2 := hP.2 (1 - s) r hs' (by omega)
    unfold F1_fill_b61
    rw [if_neg (by rw [i3_le (by omega) (by omega) (by omega) (by omega)]; omega), e1]
    simp (disch := omega) only [xg_in, i3_xnN]
    rw [hp1.1, hp2.1, F4_gainFor_ok hX hz hs hp1.2 hp2.2]
    have hb := gsd_bd (fo := fo) hX.1 s (pk s c) (pk (1 - s) r)
    simp only [Option.bind_some]
    rw [i3_l9, i3_sub, i3_toI6 (by omega) (by omega), i3_l1, i3_add, hcc]
    obtain ⟨table', e, hT⟩ := ih w (r + 1) (va_up table r (vp_updL (table r) c (i6 (9 - gsd K W t fo s (pk s c) (pk (1 - s) r))))) (by omega) (by omega)
    refine ⟨table', e, fun a b => ?_⟩
    rw [hT a b, tup]
    by_cases h1 : b = c ∧ r + 1 ≤ a ∧ a < mm (1 - s)
    · rw [if_pos h1, if_pos (by omega)]
    · rw [if_neg h1]
      by_cases h2 : a = r ∧ b = c
      · rw [if_pos h2, if_pos (by omega), h2.1]
        rfl
      · rw [if_neg h2, if_neg (by omega)]
theorem F1_fill_b121_ok {z : Nat} {m n : Nat} (hm : m < 7) (hn : n < 7) {picks : Nat → Nat → Int32} {gmany : Nat → Int32} {colN : Nat → Int32} {sc : Int64} {fields ties : Int32} {worth : Nat → Int32} {codes : Nat → Nat → Int32} : ∀ (rem w r : Nat) (table : Nat → Nat → Int64) (rowN : Nat → Int32), r + rem = m → rem < w → ∃ table' rowN', F1_fill_b121 z w (i3 r) picks gmany table rowN colN (i3 m) (i3 n) sc fields ties worth codes = some (table', rowN', colN, i3 m, i3 n, sc) ∧ (∀ a b, table' a b = if a = m ∧ b = n then i6 0 else if b = n ∧ r ≤ a ∧ a < m then i6 1 else table a b) ∧ (∀ a, rowN' a = if r ≤ a ∧ a < m then i3 ((n + a : Nat) : Int) else rowN a) := by
  intro rem
  induction rem with
  | zero =>
    intro w r table rowN hr hw
    obtain ⟨w, rfl⟩ : ∃ w', w = w' + 1 := ⟨w - 1, by omega⟩
    refine ⟨va_up table m (vp_updL (table m) n (i6 0)), rowN, ?_, fun a b => ?_, fun a => by rw [if_neg (by omega)]⟩
    · unfold F1_fill_b121 F1_fill_b159
      rw [if_pos (by rw [i3_le (by omega) (by omega) (by omega) (by omega)]; omega)]
      simp (disch := omega) only [xg_in, i3_xnN]
      rfl
    · rw [tup]
      by_cases h : a = m ∧ b = n
      · rw [if_pos h, if_pos h]
      · rw [if_neg h, if_neg h, if_neg (by omega)]
  | succ rem ih =>
    intro w r table rowN hr hw
    obtain ⟨w, rfl⟩ : ∃ w', w = w' + 1 := ⟨w - 1, by omega⟩
    have hcc : ((r : Nat) : Int) + 1 = ((r + 1 : Nat) : Int) := by omega
    unfold F1_fill_b121
    rw [if_neg (by rw [i3_le (by omega) (by omega) (by omega) (by omega)]; omega)]
    simp (disch := omega) only [xg_in, i3_xnN]
    rw [i3_l1, i3_add, hcc]
    obtain ⟨table', rowN', e, h1, h2⟩ := ih w (r + 1) (va_up table r (vp_updL (table r) n (1 : Int64))) (upd rowN r (i3 (n : Int) + i3 (r : Int))) (by omega) (by omega)
    refine ⟨table', rowN', e, fun a b => ?_, fun a => ?_⟩
    · rw [h1 a b, tup]
      by_cases q : a = m ∧ b = n
      · rw [if_pos q, if_pos q]
      · rw [if_neg q, if_neg q]
        by_cases q1 : b = n ∧ r + 1 ≤ a ∧ a < m
        · rw [if_pos q1, if_pos (by omega)]
        · rw [if_neg q1]
          by_cases q2 : a = r ∧ b = n
          · rw [if_pos q2, if_pos (by omega)]; rfl
          · rw [if_neg q2, if_neg (by omega)]
    · rw [h2 a]
      by_cases q1 : r + 1 ≤ a ∧ a < m
      · rw [if_pos q1, if_pos (by omega)]
      · rw [if_neg q1]
        unfold upd
        by_cases q2 : a = r
        · rw [if_pos q2, if_pos (by omega), i3_add, q2]; rfl
        · rw [if_neg q2, if_neg (by omega)]
theorem F1_fill_b29_ok {z K : Nat} {W : Nat → Int} {t : Int} {fo : Nat → Nat} {fields ties : Int32} {worth forces many : Nat → Int32} {codes : Nat → Nat → Int32} (hX : SX K W t fo fields ties worth forces many codes) (hz : 10 ≤ z) {pk : Nat → Nat → Nat} {mm : Nat → Nat} {picks : Nat → Nat → Int32} {gmany : Nat → Int32} (hP : PK K fo pk mm picks gmany) {s : Nat} (hs : s < 2) : ∀ (rem w c : Nat) (table : Nat → Nat → Int64) (rowN colN : Nat → Int32), c + rem = mm s → rem < w → (∀ a b, a < mm (1 - s) + 1 → b < c → table a b = i6 ((S0 (mm (1 - s)) (mm s) (gg K W t fo pk s)).1 a b)) → (∀ b, b < c → colN b = i3 (b : Nat)) → ∃ table' rowN' colN', F1_fill_b29 z w (i3 s) (i3 c) picks gmany table rowN colN (i3 (mm (1 - s) : Nat)) (i3 (mm s : Nat)) (i6 1) fields ties worth codes = some (table', rowN', colN', i3 (mm (1 - s) : Nat), i3 (mm s : Nat), i6 1) ∧ TR (mm (1 - s)) (mm s) (S0 (mm (1 - s)) (mm s) (gg K W t fo pk s)) table' rowN' colN' (i6 1) := by
  have hs' : 1 - s < 2 := by omega
  obtain ⟨m1, m2, m3⟩ := hP.1 (1 - s) hs'
  obtain ⟨n1, n2, n3⟩ := hP.1 s hs
  intro rem
  induction rem with
  | zero =>
    intro w c table rowN colN hc hw hT hC
    obtain ⟨w, rfl⟩ : ∃ w', w = w' + 1 := ⟨w - 1, by omega⟩
    unfold F1_fill_b29 F1_fill_b119
    rw [if_pos (by rw [i3_le (by omega) (by omega) (by omega) (by omega)]; omega)]
    obtain ⟨table', rowN', e, h1, h2⟩ := F1_fill_b121_ok (z := z) (m := mm (1 - s)) (n := mm s) m2 n2 (picks := picks) (gmany := gmany) (colN := colN) (sc := i6 1) (fields := fields) (ties := ties) (worth := worth) (codes := codes) (mm (1 - s)) z 0 table rowN (by omega) (by omega)
    refine ⟨table', rowN', colN, e, fun a b ha hb => ?_, fun a ha => ?_, fun b hb => hC b (by omega), rfl⟩
    · rw [h1 a b]
      unfold S0
      by_cases q : a = mm (1 - s) ∧ b = mm s
      · rw [if_pos q, q.1, q.2]
        simp only [if_neg (show ¬ mm (1 - s) < mm (1 - s) by omega), if_neg (show ¬ mm s < mm s by omega)]
      · rw [if_neg q]
        by_cases q1 : b = mm s ∧ 0 ≤ a ∧ a < mm (1 - s)
        · rw [if_pos q1, q1.1]
          simp only [if_pos q1.2.2, if_neg (show ¬ mm s < mm s by omega)]
        · rw [if_neg q1, hT a b ha (by omega)]
          rfl
    · rw [h2 a, if_pos (by omega)]
      rfl
  | succ rem ih =>
    intro w c table rowN colN hc hw hT hC
    obtain ⟨w, rfl⟩ : ∃ w', w = w' + 1 := ⟨w - 1, by omega⟩
    unfold F1_fill_b29
    rw [if_neg (by rw [i3_le (by omega) (by omega) (by omega) (by omega)]; omega)]
    simp (disch := omega) only [xg_in, i3_xnN]
    obtain ⟨table', e, h1⟩ := F1_fill_b61_ok hX hz hP hs (show c < mm s by omega) (rowN := rowN) (colN := upd colN c (i3 (c : Int))) (sc := i6 1) (fun q0 q1 q2 q3 q4 q5 q6 q7 q8 q9 q10 q11 q12 q13 => F1_fill_b29 z w q0 q1 q2 q3 q4 q5 q6 q7 q8 q9 q10 q11 q12 q13) (mm (1 - s)) z 0 (va_up table (mm (1 - s)) (vp_updL (table (mm (1 - s))) c (-1 : Int64))) (by omega) (by omega)
    rw [show (0 : Int32) = i3 ((0 : Nat) : Int) from rfl, e]
    refine ih w (c + 1) table' rowN _ (by omega) (by omega) (fun a b ha hb => ?_) (fun b hb => ?_)
    · rw [h1 a b, tup]
      unfold S0
      by_cases q : b = c ∧ 0 ≤ a ∧ a < mm (1 - s)
      · rw [if_pos q, q.1]
        simp only [if_pos q.2.2, if_pos (show c < mm s by omega)]
      · rw [if_neg q]
        by_cases q2 : a = mm (1 - s) ∧ b = c
        · rw [if_pos q2, q2.1, q2.2]
          simp only [if_neg (show ¬ mm (1 - s) < mm (1 - s) by omega), if_pos (show c < mm s by omega)]
          rfl
        · rw [if_neg q2, hT a b ha (by omega)]
          rfl
    · unfold upd
      by_cases q : b = c
      · rw [if_pos q, q]
      · rw [if_neg q]; exact hC b (by omega)
theorem F1_fill_ok {z K : Nat} {W : Nat → Int} {t : Int} {fo : Nat → Nat} {fields ties : Int32} {worth forces many : Nat → Int32} {codes : Nat → Nat → Int32} (hX : SX K W t fo fields ties worth forces many codes) (hz : 10 ≤ z) {pk : Nat → Nat → Nat} {mm : Nat → Nat} {picks : Nat → Nat → Int32} {gmany : Nat → Int32} (hP : PK K fo pk mm picks gmany) {s : Nat} (hs : s < 2) (table : Nat → Nat → Int64) (rowN colN : Nat → Int32) (rows cols : Int32) (scale : Int64) : ∃ table' rowN' colN', F1_fill z (i3 s) picks gmany table rowN colN rows cols scale fields ties worth codes = some (table', rowN', colN', i3 (mm (1 - s) : Nat), i3 (mm s : Nat), i6 1) ∧ TR (mm (1 - s)) (mm s) (S0 (mm (1 - s)) (mm s) (gg K W t fo pk s)) table' rowN' colN' (i6 1) := by
  have hs' : 1 - s < 2 := by omega
  obtain ⟨m1, m2, m3⟩ := hP.1 (1 - s) hs'
  obtain ⟨n1, n2, n3⟩ := hP.1 s hs
  have e1 : (1 : Int32) - i3 (s : Int) = i3 ((1 - s : Nat) : Int) := by
    rw [i3_l1, i3_sub]; congr 1; omega
  unfold F1_fill
  rw [e1]
  simp (disch := omega) only [xg_in, i3_xnN]
  rw [m3, n3]
  exact F1_fill_b29_ok hX hz hP hs (mm s) z 0 table rowN colN (by omega) (by omega) (fun a b _ hb => by omega) (fun b hb => by omega)
/-- the choice, as a function -/
noncomputable def nxs (m n : Nat) (s : SS) : Option (Nat × Nat) := @dite _ (∃ p : Nat × Nat, Ent m n s p.2 ∧ Lea m n s p.2 p.1) (Classical.propDecidable _) (fun h => some (Classical.choose h)) (fun _ => none)
theorem nxs_sound {m n : Nat} {s : SS} {r c : Nat} (h : nxs m n s = some (r, c)) : Ent m n s c ∧ Lea m n s c r := by
  unfold nxs at h
  by_cases hp : ∃ p : Nat × Nat, Ent m n s p.2 ∧ Lea m n s p.2 p.1
  · rw [dif_pos hp, Option.some.injEq] at h
    have := Classical.choose_spec hp
    rw [h] at this
    exact this
  · rw [dif_neg hp] at h
    exact absurd h (by simp)
theorem nxs_none {m n : Nat} {s : SS} (h : ¬ ∃ p : Nat × Nat, Ent m n s p.2 ∧ Lea m n s p.2 p.1) : nxs m n s = none := by
  unfold nxs
  rw [dif_neg h]
theorem nxs_some {m n : Nat} {s : SS} (hN : SN m n s) {r c : Nat} (hE : Ent m n s c) (hL : Lea m n s c r) : nxs m n s = some (r, c) := by
  have hp : ∃ p : Nat × Nat, Ent m n s p.2 ∧ Lea m n s p.2 p.1 := ⟨(r, c), hE, hL⟩
  have h1 : nxs m n s = some (Classical.choose hp) := by
    unfold nxs
    rw [dif_pos hp]
  rw [h1]
  have h2 := Classical.choose_spec hp
  generalize Classical.choose hp = p at h2
  obtain ⟨r', c'⟩ := p
  obtain ⟨hE', hL'⟩ := h2
  have hE' : Ent m n s c' := hE'
  have hL' : Lea m n s c' r' := hL'
  have hc : c' = c := by
    apply Classical.byContradiction
    intro q
    have a1 := hE.2.2 c' hE'.1 hE'.2.1
    have a2 := hE'.2.2 c hE.1 hE.2.1
    exact SN_cc hN hE'.1 hE.1 q (Nat.le_antisymm a2 a1)
  subst hc
  have hr : r' = r := by
    apply Classical.byContradiction
    intro q
    have a1 := hL.2.2 r' hL'.1 hL'.2.1
    have a2 := hL'.2.2 r hL.1 hL.2.1
    have a3 := SN_rr hN hL'.1 hL.1 q
    rcases a1 with a1 | a1 <;> rcases a2 with a2 | a2 <;> omega
  rw [hr]
theorem SI_SB {m n : Nat} {g : Nat → Nat → Int} {s : SS} (h : SI m n g s) (hm : m < 7) (hn : n < 7) (hm0 : 0 < m) (hn0 : 0 < n) (hg : ∀ r c, r < m → c < n → - 8 ≤ g r c ∧ g r c ≤ 8) : SB m n s := by
  have := SI_bd h hm hg
  exact ⟨hm, hn, hm0, hn0, h.1, this.1, h.2.2.2.1, this.2⟩
theorem F1_solve_b8_ok {z : Nat} (hz : 10 ≤ z) {m n : Nat} {g : Nat → Nat → Int} (hm : m < 7) (hn : n < 7) (hm0 : 0 < m) (hn0 : 0 < n) (hg : ∀ r c, r < m → c < n → - 8 ≤ g r c ∧ g r c ≤ 8) {s0 : SS} {k : Nat} (hk : k < 925) (hend : nxs m n (itr (nxs m n) m n s0 k) = none) (hSI : SI m n g (itr (nxs m n) m n s0 k)) (hbef : ∀ j, j < k → ∃ r c, nxs m n (itr (nxs m n) m n s0 j) = some (r, c) ∧ SI m n g (itr (nxs m n) m n s0 j)) {picks : Nat → Nat → Int32} {gmany : Nat → Int32} {fields ties : Int32} {worth : Nat → Int32} {codes : Nat → Nat → Int32} : ∀ (d w j : Nat) (table : Nat → Nat → Int64) (rowN colN : Nat → Int32) (scale : Int64), j + d = k → d < w → TR m n (itr (nxs m n) m n s0 j) table rowN colN scale → ∃ table' rowN' colN' scale', F1_solve_b8 z w (i3 j) picks gmany table rowN colN (i3 m) (i3 n) scale fields ties worth codes = some (table', rowN', colN', i3 m, i3 n, scale') ∧ TR m n (itr (nxs m n) m n s0 k) table' rowN' colN' scale' := by
  intro d
  induction d with
  | zero =>
    intro w j table rowN colN scale hj hw hT
    obtain ⟨w, rfl⟩ : ∃ w', w = w' + 1 := ⟨w - 1, by omega⟩
    have e : j = k := by omega
    subst e
    have hB := SI_SB hSI hm hn hm0 hn0 hg
    refine ⟨table, rowN, colN, scale, ?_, hT⟩
    unfold F1_solve_b8 F1_solve_b37
    rw [if_neg (by rw [i3_l1000, i3_le (by omega) (by omega) (by omega) (by omega)]; omega)]
    obtain ⟨f, ef, hf⟩ := F1_entering_ok hB hT hz
    rw [ef]
    simp only [Option.bind_some]
    rcases hf with ⟨e1, -⟩ | ⟨c, e1, hE⟩
    · rw [e1, if_pos i3_m1.symm, if_pos trivial]
    · exfalso
      obtain ⟨f2, -, h2⟩ := F1_leaving_ok hB hT hz hE.1
      rcases h2 with ⟨-, h2⟩ | ⟨r, -, hL⟩
      · obtain ⟨i, hi, hp⟩ := SI_bounded hSI hm0 (fun r c hr hc => (hg r c hr hc).2) hE.1
        have := h2 i hi
        omega
      · rw [nxs_some hSI.1 hE hL] at hend
        exact absurd hend (by simp)
  | succ d ih =>
    intro w j table rowN colN scale hj hw hT
    obtain ⟨w, rfl⟩ : ∃ w', w = w' + 1 := ⟨w - 1, by omega⟩
    obtain ⟨r, c, hn1, hS1⟩ := hbef j (by omega)
    obtain ⟨hE0, hL0⟩ := nxs_sound hn1
    have hB := SI_SB hS1 hm hn hm0 hn0 hg
    have enext : itr (nxs m n) m n s0 (j + 1) = exs m n (itr (nxs m n) m n s0 j) r c := by
      show (match nxs m n (itr (nxs m n) m n s0 j) with
        | none => itr (nxs m n) m n s0 j
        | some (r, c) => exs m n (itr (nxs m n) m n s0 j) r c) = _
      rw [hn1]
    unfold F1_solve_b8 F1_solve_b37
    rw [if_neg (by rw [i3_l1000, i3_le (by omega) (by omega) (by omega) (by omega)]; omega)]
    obtain ⟨f, ef, hf⟩ := F1_entering_ok hB hT hz
    rw [ef]
    simp only [Option.bind_some]
    rcases hf with ⟨e1, hno⟩ | ⟨c', e1, hE⟩
    · exact absurd hE0.2.1 (hno c hE0.1)
    · obtain ⟨f2, ef2, h2⟩ := F1_leaving_ok hB hT hz hE.1
      rcases h2 with ⟨-, h2⟩ | ⟨r', e2, hL⟩
      · obtain ⟨i, hi, hp⟩ := SI_bounded hS1 hm0 (fun r c hr hc => (hg r c hr hc).2) hE.1
        have := h2 i hi
        omega
      · have h3 := nxs_some hS1.1 hE hL
        rw [hn1, Option.some.injEq, Prod.mk.injEq] at h3
        obtain ⟨rfl, rfl⟩ := h3
        have hcn := hE.1
        have hrm := hL.1
        rw [e1, if_neg (by rw [i3_m1, i3_eq (by omega) (by omega) (by omega) (by omega)]; omega), ef2]
        simp only [Option.bind_some]
        rw [e2, if_neg (by rw [i3_m1, i3_eq (by omega) (by omega) (by omega) (by omega)]; omega)]
        obtain ⟨table', rowN', colN', e3, hT'⟩ := F1_exchange_ok hz hB hT hrm hcn
        rw [e3]
        simp only [Option.bind_some]
        rw [i3_l1, i3_add]
        rw [← enext] at hT'
        exact ih w (j + 1) table' rowN' colN' _ (by omega) (by omega) hT'
theorem F1_solve_ok {z K : Nat} {W : Nat → Int} {t : Int} {fo : Nat → Nat} {fields ties : Int32} {worth forces many : Nat → Int32} {codes : Nat → Nat → Int32} (hX : SX K W t fo fields ties worth forces many codes) (hz : 1000 ≤ z) {pk : Nat → Nat → Nat} {mm : Nat → Nat} {picks : Nat → Nat → Int32} {gmany : Nat → Int32} (hP : PK K fo pk mm picks gmany) {s : Nat} (hs : s < 2) (table : Nat → Nat → Int64) (rowN colN : Nat → Int32) (rows cols : Int32) (scale : Int64) : ∃ table' rowN' colN' scale' ss, F1_solve z (i3 s) picks gmany table rowN colN rows cols scale fields ties worth codes = some (table', rowN', colN', i3 (mm (1 - s) : Nat), i3 (mm s : Nat), scale') ∧ TR (mm (1 - s)) (mm s) ss table' rowN' colN' scale' ∧ optm (mm (1 - s)) (mm s) (gg K W t fo pk s) ss ∧ SB (mm (1 - s)) (mm s) ss := by
  have hs' : 1 - s < 2 := by omega
  obtain ⟨m1, m2, m3⟩ := hP.1 (1 - s) hs'
  obtain ⟨n1, n2, n3⟩ := hP.1 s hs
  have hg : ∀ r c, r < mm (1 - s) → c < mm s → -8 ≤ gg K W t fo pk s r c ∧ gg K W t fo pk s r c ≤ 8 := fun r c _ _ => gsd_bd hX.1 s _ _
  obtain ⟨k, hk, hend, hSI, hbef⟩ := itr_ends (nx := nxs (mm (1 - s)) (mm s)) n1 m2 n2 (S0_SI (mm (1 - s)) (mm s) (gg K W t fo pk s)) (fun t r c _ h => nxs_sound h)
  unfold F1_solve
  obtain ⟨table1, rowN1, colN1, e1, hT1⟩ := F1_fill_ok hX (show 10 ≤ z by omega) hP hs table rowN colN rows cols scale
  rw [e1]
  simp only [Option.bind_some]
  obtain ⟨table2, rowN2, colN2, scale2, e2, hT2⟩ := F1_solve_b8_ok (picks := picks) (gmany := gmany) (fields := fields) (ties := ties) (worth := worth) (codes := codes) (show 10 ≤ z by omega) m2 n2 m1 n1 hg hk hend hSI hbef k z 0 table1 rowN1 colN1 (i6 1) (by omega) (by omega) hT1
  refine ⟨table2, rowN2, colN2, scale2, _, e2, hT2, ⟨hSI, fun j hj => ?_⟩, SI_SB hSI m2 n2 m1 n1 hg⟩
  -- at the end no column is better
  rcases Lnn_tot (L := mm s + 1) (f := rd (mm (1 - s)) (mm s) (itr (nxs (mm (1 - s)) (mm s)) (mm (1 - s)) (mm s) (S0 (mm (1 - s)) (mm s) (gg K W t fo pk s)) k) j) with q | q
  · exact q
  · exfalso
    have hB := SI_SB hSI m2 n2 m1 n1 hg
    obtain ⟨f, ef, hf⟩ := F1_entering_ok hB hT2 (show 10 ≤ z by omega)
    rcases hf with ⟨-, hno⟩ | ⟨c, -, hE⟩
    · exact hno j hj q
    · obtain ⟨f2, -, h2⟩ := F1_leaving_ok hB hT2 (show 10 ≤ z by omega) hE.1
      rcases h2 with ⟨-, h2⟩ | ⟨r, -, hL⟩
      · obtain ⟨i, hi, hp⟩ := SI_bounded hSI m1 (fun r c hr hc => (hg r c hr hc).2) hE.1
        have := h2 i hi
        omega
      · rw [nxs_some hSI.1 hE hL] at hend
        exact absurd hend (by simp)
