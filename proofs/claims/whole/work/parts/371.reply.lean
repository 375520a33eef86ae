/-! ===== replies ===== -/
theorem spreadPlan_ok {z K : Nat} (hz : 20 ≤ z) {W : Nat → Int} {t : Int} {fo : Nat → Nat} {fields ties : Int32} {worth forces many : Nat → Int32} {codes : Nat → Nat → Int32} (hX : SX K W t fo fields ties worth forces many codes) {pN : Nat → Nat} {pI : Nat → Nat → Nat} {pW : Nat → Nat → Int} {pList pWei : Nat → Nat → Int32} {pMany pAll told : Nat → Int32} (hP : PLr K fo pN pI pW pList pWei pMany pAll told) {s : Nat} (hs : s < 2) (wall : Int32) (wmass : Nat → Nat → Int32) : ∃ mass', F9_spreadPlan z (i3 s) fields codes pList pWei pMany wall wmass = some (i3 (sm (pN s) (pW s)), mass') ∧ Ms K (mss K (fun e => cd K (fo s) (pI s e)) (pW s) (pN s)) mass' := by
  obtain ⟨p1, p2, p3, p4, p5, p6⟩ := hP s hs
  have n0 := ns_bd hX.1 (hX.2.1 s hs)
  have hK := hX.1.2.1
  have eb : Nat.blt s 2 = true := by rcases two_cases hs with rfl | rfl <;> rfl
  have loop : ∀ (rem w e : Nat) (mass : Nat → Nat → Int32), e + rem = pN s → rem < w → Ms K (mss K (fun e => cd K (fo s) (pI s e)) (pW s) e) mass → ∃ mass', F9_spreadPlan_b19 z w (i3 s) s (i3 e) fields codes pList pWei pMany (i3 (sm e (pW s))) mass = some (i3 (sm (pN s) (pW s)), mass') ∧ Ms K (mss K (fun e => cd K (fo s) (pI s e)) (pW s) (pN s)) mass' := by
    intro rem
    induction rem with
    | zero =>
      intro w e mass he hw h
      obtain ⟨w, rfl⟩ : ∃ w', w = w' + 1 := ⟨w - 1, by omega⟩
      obtain rfl : e = pN s := by omega
      refine ⟨mass, ?_, h⟩
      unfold F9_spreadPlan_b19
      rw [eb, p2, if_pos (by rw [i3_le (by omega) (by omega) (by omega) (by omega)]; omega)]
      rfl
    | succ rem ih =>
      intro w e mass he hw h
      obtain ⟨w, rfl⟩ : ∃ w', w = w' + 1 := ⟨w - 1, by omega⟩
      obtain ⟨d1, d2, d3, d4, d5, -⟩ := p5 e (by omega)
      obtain ⟨m1, e1, h1⟩ := F6_lay_ok (z := z) hz hK (cd_lt hK d1) (pW s e) (sm e (pW s)) h
      unfold F9_spreadPlan_b19
      rw [eb, p2, if_neg (by rw [i3_le (by omega) (by omega) (by omega) (by omega)]; omega), xg_t]
      simp (disch := omega) only [xg_in, i3_xnN]
      rw [d4, d5]
      simp (disch := omega) only [xg_in, i3_xnN]
      rw [hX.2.2.2.2.2.2.2 s _ hs d1, hX.2.2.1, e1]
      simp only [Option.bind_some]
      rw [show i3 (e : Int) + 1 = i3 ((e + 1 : Nat) : Int) from by rw [i3_l1, i3_add]; rfl, ← hX.2.2.1]
      exact ih w (e + 1) m1 (by omega) (by omega) h1
  obtain ⟨m0, e0, h0⟩ := F6_clear_ok (z := z) hz wall wmass
  unfold F9_spreadPlan
  simp (disch := omega) only [xg_in, i3_xnN]
  rw [e0]
  exact loop (pN s) z 0 m0 (by omega) (by omega) (fun k v hk hv => h0 k v (by omega) hv)
/-- the first of the least -/
def amn (g : Nat → Int) : Nat → Nat
  | 0 => 0
  | n + 1 => if g (amn g n) ≤ g n then amn g n else n
theorem amn_lt (g : Nat → Int) : ∀ n, 0 < n → amn g n < n := by
  intro n
  induction n with
  | zero => intro h; omega
  | succ n ih =>
    intro _
    show (if g (amn g n) ≤ g n then amn g n else n) < n + 1
    by_cases q : g (amn g n) ≤ g n
    · rw [if_pos q]
      by_cases q2 : n = 0
      · subst q2; exact Nat.lt_succ_self 0
      · have := ih (by omega); omega
    · rw [if_neg q]; omega
theorem amn_eq {g h : Nat → Int} : ∀ n, (∀ i j, i < n → j < n → (g i ≤ g j ↔ h i ≤ h j)) → amn g n = amn h n := by
  intro n
  induction n with
  | zero => intro _; rfl
  | succ n ih =>
    intro H
    show (if g (amn g n) ≤ g n then amn g n else n) = (if h (amn h n) ≤ h n then amn h n else n)
    rw [← ih (fun i j hi hj => H i j (by omega) (by omega))]
    have hl : amn g n < n + 1 := by
      by_cases q : n = 0
      · subst q; exact Nat.lt_succ_self 0
      · have := amn_lt g n (by omega); omega
    by_cases q : g (amn g n) ≤ g n
    · rw [if_pos q, if_pos ((H _ _ hl (by omega)).mp q)]
    · rw [if_neg q, if_neg (fun q2 => q ((H _ _ hl (by omega)).mpr q2))]
theorem amn_one (g : Nat → Int) : amn g 1 = 0 := if_pos (Int.le_refl _)
theorem replyToSpread_ok {z K : Nat} (hz : 200 ≤ z) {W : Nat → Int} {t : Int} {fo : Nat → Nat} {fields ties : Int32} {worth forces many : Nat → Int32} {codes : Nat → Nat → Int32} (hX : SX K W t fo fields ties worth forces many codes) {s : Nat} (hs : s < 2) {mass : Nat → Nat → Int32} {g : Nat → Int} (hb : ∀ j, j < ns K (fo (1 - s)) → -1000000 ≤ g j ∧ g j ≤ 1000000) (hg : ∀ j, j < ns K (fo (1 - s)) → F6_gainFor z (i3 s) (codes (1 - s) j) mass fields ties worth = some (i3 (g j))) : F9_replyToSpread z (i3 s) fields ties worth many codes mass = some (i3 (amn g (ns K (fo (1 - s))) : Nat)) := by
  have h1s : 1 - s < 2 := by omega
  have n0 := ns_bd hX.1 (hX.2.1 (1 - s) h1s)
  have e1 : (1 : Int32) - i3 (s : Int) = i3 ((1 - s : Nat) : Int) := one_sub hs
  have loop : ∀ (rem w m : Nat), m + rem = ns K (fo (1 - s)) → 1 ≤ m → rem < w → F9_replyToSpread_b34 z w (i3 s) (i3 (1 - s : Nat)) (i3 (amn g m : Nat)) (i3 (g (amn g m))) (i3 m) fields ties worth many codes mass = some (i3 (amn g (ns K (fo (1 - s))) : Nat)) := by
    intro rem
    induction rem with
    | zero =>
      intro w m hm h1 hw
      obtain ⟨w, rfl⟩ : ∃ w', w = w' + 1 := ⟨w - 1, by omega⟩
      obtain rfl : m = ns K (fo (1 - s)) := by omega
      unfold F9_replyToSpread_b34
      simp (disch := omega) only [xg_in, i3_xnN]
      rw [hX.2.2.2.2.2.2.1 _ h1s, if_pos (by rw [i3_le (by omega) (by omega) (by omega) (by omega)]; omega)]
    | succ rem ih =>
      intro w m hm h1 hw
      obtain ⟨w, rfl⟩ : ∃ w', w = w' + 1 := ⟨w - 1, by omega⟩
      have hal := amn_lt g m (by omega)
      have b1 := hb (amn g m) (by omega)
      have b2 := hb m (by omega)
      unfold F9_replyToSpread_b34
      simp (disch := omega) only [xg_in, i3_xnN]
      rw [hX.2.2.2.2.2.2.1 _ h1s, if_neg (by rw [i3_le (by omega) (by omega) (by omega) (by omega)]; omega), hg m (by omega)]
      simp only [Option.bind_some]
      unfold F9_replyToSpread_b88
      rw [show i3 (m : Int) + 1 = i3 ((m + 1 : Nat) : Int) from by rw [i3_l1, i3_add]; rfl]
      have ih' := ih w (m + 1) (by omega) (by omega) (by omega)
      have ea : amn g (m + 1) = if g (amn g m) ≤ g m then amn g m else m := rfl
      by_cases q : g (amn g m) ≤ g m
      · rw [if_pos (by rw [i3_le (by omega) (by omega) (by omega) (by omega)]; exact q)]
        rw [ea, if_pos q] at ih'
        exact ih'
      · rw [if_neg (by rw [i3_le (by omega) (by omega) (by omega) (by omega)]; exact q)]
        rw [ea, if_neg q] at ih'
        exact ih'
  unfold F9_replyToSpread
  rw [e1]
  simp (disch := omega) only [xg_in, i3_xnN]
  rw [hg 0 (by omega)]
  simp only [Option.bind_some]
  have := loop (ns K (fo (1 - s)) - 1) z 1 (by omega) (by omega) (by omega)
  rw [amn_one] at this
  exact this
theorem leastOfSpread_ok {z K : Nat} (hz : 200 ≤ z) {W : Nat → Int} {t : Int} {fo : Nat → Nat} {fields ties : Int32} {worth forces many : Nat → Int32} {codes : Nat → Nat → Int32} (hX : SX K W t fo fields ties worth forces many codes) {s : Nat} (hs : s < 2) {mass : Nat → Nat → Int32} {g : Nat → Int} (hb : ∀ j, j < ns K (fo (1 - s)) → -1000000 ≤ g j ∧ g j ≤ 1000000) (hg : ∀ j, j < ns K (fo (1 - s)) → F6_gainFor z (i3 s) (codes (1 - s) j) mass fields ties worth = some (i3 (g j))) : F9_leastOfSpread z (i3 s) fields ties worth many codes mass = some (i3 (g (amn g (ns K (fo (1 - s)))))) := by
  have h1s : 1 - s < 2 := by omega
  have n0 := ns_bd hX.1 (hX.2.1 (1 - s) h1s)
  have e1 : (1 : Int32) - i3 (s : Int) = i3 ((1 - s : Nat) : Int) := one_sub hs
  have hal := amn_lt g (ns K (fo (1 - s))) (by omega)
  unfold F9_leastOfSpread
  rw [replyToSpread_ok hz hX hs hb hg, e1]
  simp (disch := omega) only [xg_in, i3_xnN, Option.bind_some]
  rw [hg _ hal]
  rfl
theorem gainBy_ok {z K : Nat} (hz : 200 ≤ z) {W : Nat → Int} {t : Int} {fo : Nat → Nat} {told many eights gains : Nat → Int32} (hM : SM K W t fo told many eights gains) {s j : Nat} (hs : s < 2) (hj : j < ns K (fo (1 - s))) {shares : Nat → Int32} {sh : Nat → Int} (hsh : ∀ i, i < ns K (fo s) → shares i = i3 (sh i)) : F10_gainBy z (i3 s) (i3 j) many gains shares = some (i3 (sm (ns K (fo s)) (fun i => sh i * gsd K W t fo s i j))) := by
  have n0 := ns_bd hM.1 (hM.2.1 s hs)
  have loop : ∀ (rem w m : Nat), m + rem = ns K (fo s) → rem < w → F10_gainBy_b5 z w (i3 s) (i3 j) (i3 (sm m (fun i => sh i * gsd K W t fo s i j))) (i3 m) many gains shares = some (i3 (sm (ns K (fo s)) (fun i => sh i * gsd K W t fo s i j))) := by
    intro rem
    induction rem with
    | zero =>
      intro w m hm hw
      obtain ⟨w, rfl⟩ : ∃ w', w = w' + 1 := ⟨w - 1, by omega⟩
      obtain rfl : m = ns K (fo s) := by omega
      unfold F10_gainBy_b5
      simp (disch := omega) only [xg_in, i3_xnN]
      rw [hM.2.2.2.2.2.2.1 _ hs, if_pos (by rw [i3_le (by omega) (by omega) (by omega) (by omega)]; omega)]
    | succ rem ih =>
      intro w m hm hw
      obtain ⟨w, rfl⟩ : ∃ w', w = w' + 1 := ⟨w - 1, by omega⟩
      have ih' : F10_gainBy_b5 z w (i3 s) (i3 j) (i3 (sm m (fun i => sh i * gsd K W t fo s i j) + sh m * gsd K W t fo s m j)) (i3 (m + 1 : Nat)) many gains shares = _ := ih w (m + 1) (by omega) (by omega)
      unfold F10_gainBy_b5
      simp (disch := omega) only [xg_in, i3_xnN]
      rw [hM.2.2.2.2.2.2.1 _ hs, if_neg (by rw [i3_le (by omega) (by omega) (by omega) (by omega)]; omega), hsh m (by omega), F10_gainFor_ok hM hs (by omega) hj]
      simp only [Option.bind_some]
      unfold F10_gainBy_b47
      rw [i3_mul, i3_add, show i3 (m : Int) + 1 = i3 ((m + 1 : Nat) : Int) from by rw [i3_l1, i3_add]; rfl]
      by_cases q : i3 (sh m) = 0
      · rw [if_pos q]
        rw [← i3_add, ← i3_mul, q, Int32.zero_mul] at ih'
        exact ih'
      · rw [if_neg q]
        exact ih'
  exact loop (ns K (fo s)) z 0 (by omega) (by omega)
theorem replyTo_ok {z K : Nat} (hz : 200 ≤ z) {W : Nat → Int} {t : Int} {fo : Nat → Nat} {told many eights gains : Nat → Int32} (hM : SM K W t fo told many eights gains) {s : Nat} (hs : s < 2) {shares : Nat → Int32} {g : Nat → Int} (hb : ∀ j, j < ns K (fo (1 - s)) → -10000000 ≤ g j ∧ g j ≤ 10000000) (hg : ∀ j, j < ns K (fo (1 - s)) → F10_gainBy z (i3 s) (i3 j) many gains shares = some (i3 (g j))) : F10_replyTo z (i3 s) many gains shares = some (i3 (amn g (ns K (fo (1 - s))) : Nat)) := by
  have h1s : 1 - s < 2 := by omega
  have n0 := ns_bd hM.1 (hM.2.1 (1 - s) h1s)
  have e1 : (1 : Int32) - i3 (s : Int) = i3 ((1 - s : Nat) : Int) := one_sub hs
  have loop : ∀ (rem w m : Nat), m + rem = ns K (fo (1 - s)) → 1 ≤ m → rem < w → F10_replyTo_b4 z w (i3 s) (i3 (amn g m : Nat)) (i3 m) many gains shares = some (i3 (amn g (ns K (fo (1 - s))) : Nat)) := by
    intro rem
    induction rem with
    | zero =>
      intro w m hm h1 hw
      obtain ⟨w, rfl⟩ : ∃ w', w = w' + 1 := ⟨w - 1, by omega⟩
      obtain rfl : m = ns K (fo (1 - s)) := by omega
      unfold F10_replyTo_b4
      rw [e1]
      simp (disch := omega) only [xg_in, i3_xnN]
      rw [hM.2.2.2.2.2.2.1 _ h1s, if_pos (by rw [i3_le (by omega) (by omega) (by omega) (by omega)]; omega)]
    | succ rem ih =>
      intro w m hm h1 hw
      obtain ⟨w, rfl⟩ : ∃ w', w = w' + 1 := ⟨w - 1, by omega⟩
      have hal := amn_lt g m (by omega)
      have b1 := hb (amn g m) (by omega)
      have b2 := hb m (by omega)
      unfold F10_replyTo_b4
      rw [e1]
      simp (disch := omega) only [xg_in, i3_xnN]
      rw [hM.2.2.2.2.2.2.1 _ h1s, if_neg (by rw [i3_le (by omega) (by omega) (by omega) (by omega)]; omega), hg m (by omega), hg (amn g m) (by omega)]
      simp only [Option.bind_some]
      unfold F10_replyTo_b36
      rw [show i3 (m : Int) + 1 = i3 ((m + 1 : Nat) : Int) from by rw [i3_l1, i3_add]; rfl]
      have ih' := ih w (m + 1) (by omega) (by omega) (by omega)
      have ea : amn g (m + 1) = if g (amn g m) ≤ g m then amn g m else m := rfl
      by_cases q : g (amn g m) ≤ g m
      · rw [if_pos (by rw [i3_le (by omega) (by omega) (by omega) (by omega)]; exact q)]
        rw [ea, if_pos q] at ih'
        exact ih'
      · rw [if_neg (by rw [i3_le (by omega) (by omega) (by omega) (by omega)]; exact q)]
        rw [ea, if_neg q] at ih'
        exact ih'
  have := loop (ns K (fo (1 - s)) - 1) z 1 (by omega) (by omega) (by omega)
  rw [amn_one] at this
  exact this
