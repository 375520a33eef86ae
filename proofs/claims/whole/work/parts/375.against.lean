/-! ===== calls: against, both ===== -/
theorem sm_bd40 {f : Nat → Int} {n : Nat} (h : ∀ k, k < n → 0 ≤ f k ∧ f k ≤ 40) : 0 ≤ sm n f ∧ sm n f ≤ 40 * (n : Int) := by
  induction n with
  | zero => exact ⟨Int.le_refl _, Int.le_refl _⟩
  | succ n ih =>
    have h1 := ih (fun k hk => h k (by omega))
    have h2 := h n (by omega)
    show 0 ≤ sm n f + f n ∧ sm n f + f n ≤ 40 * ((n + 1 : Nat) : Int)
    omega
theorem gsd_sw {K : Nat} {W : Nat → Int} {t : Int} {fo : Nat → Nat} {s : Nat} (hs : s < 2) (i j : Nat) : gsd K W t fo (1 - s) j i = - gsd K W t fo s i j := by
  rcases two_cases hs with rfl | rfl
  · rfl
  · show gn K W t _ _ = - - gn K W t _ _
    rw [Int.neg_neg]
def gon (K : Nat) (W : Nat → Int) (t : Int) (fo : Nat → Nat) (nS : Nat → Nat → Nat) (s i : Nat) : Int := sm (ns K (fo (1 - s))) (fun j => (nS (1 - s) j : Int) * gsd K W t fo s i j)
theorem gainOnNotes_ok {z K : Nat} (hz : 200 ≤ z) {W : Nat → Int} {t : Int} {fo : Nat → Nat} {told manym eights gains : Nat → Int32} (hM : SM K W t fo told manym eights gains) {nN : Nat → Nat} {nS : Nat → Nat → Nat} {ntSeen : Nat → Nat → Int32} {ntMany notes seen : Nat → Int32} (hN : NTr K fo nN nS ntSeen ntMany notes seen) {s i : Nat} (hs : s < 2) (hi : i < ns K (fo s)) : F10_gainOnNotes z (i3 s) (i3 i) manym gains seen = some (i3 (gon K W t fo nS s i)) := by
  have h1s : 1 - s < 2 := by omega
  have n0 := ns_bd hM.1 (hM.2.1 (1 - s) h1s)
  have e1 : (1 : Int32) - i3 (s : Int) = i3 ((1 - s : Nat) : Int) := one_sub hs
  have loop : ∀ (rem w m : Nat), m + rem = ns K (fo (1 - s)) → rem < w → F10_gainOnNotes_b5 z w (i3 s) (i3 i) (i3 (sm m (fun j => (nS (1 - s) j : Int) * gsd K W t fo s i j))) (i3 m) manym gains seen = some (i3 (gon K W t fo nS s i)) := by
    intro rem
    induction rem with
    | zero =>
      intro w m hm hw
      obtain ⟨w, rfl⟩ : ∃ w', w = w' + 1 := ⟨w - 1, by omega⟩
      obtain rfl : m = ns K (fo (1 - s)) := by omega
      unfold F10_gainOnNotes_b5
      rw [e1]
      simp (disch := omega) only [xg_in, i3_xnN]
      rw [hM.2.2.2.2.2.2.1 _ h1s, if_pos (by rw [i3_le (by omega) (by omega) (by omega) (by omega)]; omega)]
      rfl
    | succ rem ih =>
      intro w m hm hw
      obtain ⟨w, rfl⟩ : ∃ w', w = w' + 1 := ⟨w - 1, by omega⟩
      have e128 : (128 : Int32) * i3 ((1 - s : Nat) : Int) + i3 (m : Int) = i3 ((128 * (1 - s) + m : Nat) : Int) := by
        rw [i3_l128, i3_mul, i3_add]; congr 1
      unfold F10_gainOnNotes_b5
      rw [e1, e128, F10_gainFor_ok hM hs hi (by omega)]
      simp (disch := omega) only [xg_in, i3_xnN, Option.bind_some]
      rw [hM.2.2.2.2.2.2.1 _ h1s, if_neg (by rw [i3_le (by omega) (by omega) (by omega) (by omega)]; omega), ((hN (1 - s) h1s).2.2.2 m (by omega)).2.2, i3_mul, i3_add, show i3 (m : Int) + 1 = i3 ((m + 1 : Nat) : Int) from by rw [i3_l1, i3_add]; rfl]
      exact ih w (m + 1) (by omega) (by omega)
  exact loop (ns K (fo (1 - s))) z 0 (by omega) (by omega)
theorem call_against {z K : Nat} (hz : 1000 ≤ z) {W : Nat → Int} {t : Int} {fo : Nat → Nat} {fields ties : Int32} {worth forces many : Nat → Int32} {codes : Nat → Nat → Int32} (hX : SX K W t fo fields ties worth forces many codes) {told manym eights gains : Nat → Int32} (hM : SM K W t fo told manym eights gains) {nN : Nat → Nat} {nS : Nat → Nat → Nat} {ntSeen : Nat → Nat → Int32} {ntMany notes seen : Nat → Int32} (hN : NTr K fo nN nS ntSeen ntMany notes seen) (x1 x2 thrown wall : Int32) (wmass : Nat → Nat → Int32) : ∃ v wall' wmass', F9_against z x1 x2 fields ties worth many codes ntSeen ntMany wall wmass = some (v, wall', wmass') ∧ F10_against z x1 x2 thrown manym gains notes seen = some (v, 0) := by
  obtain ⟨a, rfl, h1, h2⟩ := i3_ex x1
  obtain ⟨b, rfl, h3, h4⟩ := i3_ex x2
  have hwi := within10' h3 h4 (l := 0) (h := 1) (by omega) (by omega) (by omega) (by omega) (L := 0) (H := 1) rfl rfl
  unfold F9_against F10_against
  rw [isSide9 a h1 h2, isSide10 a h1 h2, isPart9 b h3 h4]
  simp only [Option.bind_some]
  by_cases e : a = 0 ∨ a = 1
  · obtain ⟨s, hs, ea⟩ : ∃ s : Nat, s < 2 ∧ a = s := ⟨a.toNat, by omega, by omega⟩
    subst ea
    rw [if_pos e, if_neg n10, if_neg n10]
    by_cases qb : b = 0 ∨ b = 1
    · have h1s : 1 - s < 2 := by omega
      have n0 := ns_bd hM.1 (hM.2.1 s hs)
      have n1 := ns_bd hM.1 (hM.2.1 (1 - s) h1s)
      have e1 : (1 : Int32) - i3 (s : Int) = i3 ((1 - s : Nat) : Int) := one_sub hs
      have hK := hX.1.2.1
      obtain ⟨c1, c2, c3, c4⟩ := hN (1 - s) h1s
      rw [if_pos qb, if_neg n10, hwi.1 (by omega), e1]
      simp (disch := omega) only [Option.bind_some, xg_in, i3_xnN]
      rw [if_neg n10, c2, c3]
      by_cases q0 : nN (1 - s) = 0
      · have d : i3 (nN (1 - s) : Int) = 0 := by rw [q0]; rfl
        rw [if_pos d, if_pos d]
        exact ⟨_, _, _, rfl, rfl⟩
      · have d : ¬ i3 (nN (1 - s) : Int) = 0 := by rw [i3_l0, i3_eq (by omega) (by omega) (by omega) (by omega)]; omega
        rw [if_neg d, if_neg d]
        obtain ⟨m0, f0, g0⟩ := F6_clear_ok (z := z) (by omega) wall wmass
        rw [f0]
        simp only [Option.bind_some]
        have l9 : ∀ (rem w m : Nat) (A : Int) (mass : Nat → Nat → Int32), m + rem = ns K (fo (1 - s)) → rem < w → Ms K (mss K (fun e => cd K (fo (1 - s)) e) (fun e => (nS (1 - s) e : Int)) m) mass → ∃ A' mass', F9_against_b46 z w (i3 b) (i3 (1 - s : Nat)) (i3 m) fields ties worth many codes ntSeen ntMany (i3 A) mass = F9_against_b101 z (i3 b) (i3 (1 - s : Nat)) fields ties worth many codes ntSeen ntMany (i3 A') mass' ∧ Ms K (mss K (fun e => cd K (fo (1 - s)) e) (fun e => (nS (1 - s) e : Int)) (ns K (fo (1 - s)))) mass' := by
          intro rem
          induction rem with
          | zero =>
            intro w m A mass hm hw h
            obtain ⟨w, rfl⟩ : ∃ w', w = w' + 1 := ⟨w - 1, by omega⟩
            obtain rfl : m = ns K (fo (1 - s)) := by omega
            refine ⟨A, mass, ?_, h⟩
            unfold F9_against_b46
            simp (disch := omega) only [xg_in, i3_xnN]
            rw [hX.2.2.2.2.2.2.1 _ h1s, if_pos (by rw [i3_le (by omega) (by omega) (by omega) (by omega)]; omega)]
          | succ rem ih =>
            intro w m A mass hm hw h
            obtain ⟨w, rfl⟩ : ∃ w', w = w' + 1 := ⟨w - 1, by omega⟩
            have hm' : m < ns K (fo (1 - s)) := by omega
            obtain ⟨m1, f1, g1⟩ := F6_lay_ok (z := z) (by omega) hK (cd_lt hK hm') (nS (1 - s) m : Int) A h
            unfold F9_against_b46
            simp (disch := omega) only [xg_in, i3_xnN]
            rw [hX.2.2.2.2.2.2.1 _ h1s, if_neg (by rw [i3_le (by omega) (by omega) (by omega) (by omega)]; omega), hX.2.2.2.2.2.2.2 _ _ h1s hm', (c4 m hm').2.1, hX.2.2.1, f1]
            simp only [Option.bind_some]
            rw [show i3 (m : Int) + 1 = i3 ((m + 1 : Nat) : Int) from by rw [i3_l1, i3_add]; rfl, ← hX.2.2.1]
            exact ih w (m + 1) _ m1 (by omega) (by omega) g1
        obtain ⟨A', mass, f9, g9⟩ := l9 (ns K (fo (1 - s))) z 0 0 m0 (by omega) (by omega) (fun k v hk hv => g0 k v (by omega) hv)
        have es : 1 - (1 - s) = s := by omega
        have sb := sm_bd40 (f := fun e => (nS (1 - s) e : Int)) (n := ns K (fo (1 - s))) (fun k hk => by have := (c4 k hk).1; omega)
        have pb := fun j => pgn_bd hX.1 fo (1 - s) (ns K (fo (1 - s))) (fun e => e) (w := fun e => (nS (1 - s) e : Int)) (fun k hk => by omega) j
        have pg : ∀ i, pgn K W t fo (1 - s) (ns K (fo (1 - s))) (fun e => e) (fun e => (nS (1 - s) e : Int)) i = - gon K W t fo nS s i := fun i => by
          unfold pgn gon
          rw [← sm_neg]
          exact sm_congr (fun k _ => by rw [gsd_sw hs, Int.mul_neg])
        have hg9 : ∀ j, j < ns K (fo (1 - (1 - s))) → F6_gainFor z (i3 (1 - s : Nat)) (codes (1 - (1 - s)) j) mass fields ties worth = some (i3 ((fun i => - gon K W t fo nS s i) j)) := fun j hj => by
          rw [plan_gain9 (z := z) (by omega) hX h1s g9 hj, pg]
        have gb : ∀ j, -50000 ≤ gon K W t fo nS s j ∧ gon K W t fo nS s j ≤ 50000 := fun j => by have := pb j; rw [pg] at this; omega
        have r9 := replyToSpread_ok (z := z) (by omega) hX h1s (mass := mass) (g := fun i => - gon K W t fo nS s i) (fun j _ => by have := gb j; show -1000000 ≤ - gon K W t fo nS s j ∧ - gon K W t fo nS s j ≤ 1000000; omega) hg9
        have k9 := leastOfSpread_ok (z := z) (by omega) hX h1s (mass := mass) (g := fun i => - gon K W t fo nS s i) (fun j _ => by have := gb j; show -1000000 ≤ - gon K W t fo nS s j ∧ - gon K W t fo nS s j ≤ 1000000; omega) hg9
        rw [es] at r9 k9
        have l10 : ∀ (rem w m : Nat), m + rem = ns K (fo s) → 1 ≤ m → rem < w → F10_against_b41 z w (i3 s) (i3 b) (i3 (amn (fun i => - gon K W t fo nS s i) m : Nat)) (i3 m) 0 manym gains notes seen = F10_against_b81 z (i3 s) (i3 b) (i3 (amn (fun i => - gon K W t fo nS s i) (ns K (fo s)) : Nat)) 0 manym gains notes seen := by
          intro rem
          induction rem with
          | zero =>
            intro w m hm h1 hw
            obtain ⟨w, rfl⟩ : ∃ w', w = w' + 1 := ⟨w - 1, by omega⟩
            obtain rfl : m = ns K (fo s) := by omega
            unfold F10_against_b41
            simp (disch := omega) only [xg_in, i3_xnN]
            rw [hM.2.2.2.2.2.2.1 _ hs, if_pos (by rw [i3_le (by omega) (by omega) (by omega) (by omega)]; omega)]
          | succ rem ih =>
            intro w m hm h1 hw
            obtain ⟨w, rfl⟩ : ∃ w', w = w' + 1 := ⟨w - 1, by omega⟩
            have hal := amn_lt (fun i => - gon K W t fo nS s i) m (by omega)
            have b1 := gb (amn (fun i => - gon K W t fo nS s i) m)
            have b2 := gb m
            unfold F10_against_b41
            simp (disch := omega) only [xg_in, i3_xnN]
            rw [hM.2.2.2.2.2.2.1 _ hs, if_neg (by rw [i3_le (by omega) (by omega) (by omega) (by omega)]; omega), gainOnNotes_ok (by omega) hM hN hs (by omega), gainOnNotes_ok (by omega) hM hN hs (by omega)]
            simp only [Option.bind_some]
            unfold F10_against_b74
            rw [show i3 (m : Int) + 1 = i3 ((m + 1 : Nat) : Int) from by rw [i3_l1, i3_add]; rfl]
            have ih' := ih w (m + 1) (by omega) (by omega) (by omega)
            have ea : amn (fun i => - gon K W t fo nS s i) (m + 1) = if - gon K W t fo nS s (amn (fun i => - gon K W t fo nS s i) m) ≤ - gon K W t fo nS s m then amn (fun i => - gon K W t fo nS s i) m else m := rfl
            by_cases q : gon K W t fo nS s m ≤ gon K W t fo nS s (amn (fun i => - gon K W t fo nS s i) m)
            · rw [if_pos (by rw [i3_le (by omega) (by omega) (by omega) (by omega)]; exact q)]
              rw [ea, if_pos (by omega)] at ih'
              exact ih'
            · rw [if_neg (by rw [i3_le (by omega) (by omega) (by omega) (by omega)]; exact q)]
              rw [ea, if_neg (by omega)] at ih'
              exact ih'
        have f10 := l10 (ns K (fo s) - 1) z 1 (by omega) (by omega) (by omega)
        rw [amn_one] at f10
        have hal := amn_lt (fun i => - gon K W t fo nS s i) (ns K (fo s)) (by omega)
        by_cases qz : i3 b = 0
        · refine ⟨i3 (amn (fun i => - gon K W t fo nS s i) (ns K (fo s)) : Nat), i3 A', mass, Eq.trans f9 ?_, Eq.trans f10 ?_⟩
          · unfold F9_against_b101
            rw [if_pos qz, r9]
            rfl
          · unfold F10_against_b81
            rw [if_pos qz]
        · refine ⟨i3 (gon K W t fo nS s (amn (fun i => - gon K W t fo nS s i) (ns K (fo s)))), i3 A', mass, Eq.trans f9 ?_, Eq.trans f10 ?_⟩
          · unfold F9_against_b101
            rw [if_neg qz, k9]
            simp only [Option.bind_some]
            rw [i3_neg, Int.neg_neg]
          · unfold F10_against_b81
            rw [if_neg qz, gainOnNotes_ok (by omega) hM hN hs hal]
            rfl
    · rw [if_neg qb, hwi.2 (by omega)]
      exact ⟨_, _, _, rfl, rfl⟩
  · rw [if_neg e]
    exact ⟨_, _, _, rfl, rfl⟩
