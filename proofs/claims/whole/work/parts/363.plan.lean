/-! ===== call: plan ===== -/
theorem sm_set (f : Nat → Int) (w : Int) (k : Nat) : ∀ n, k < n → sm n (fun j => if j = k then w else f j) = sm n f + (w - f k) := by
  intro n
  induction n with
  | zero => intro h; omega
  | succ n ih =>
    intro h
    show sm n _ + (if n = k then w else f n) = sm n f + f n + (w - f k)
    by_cases q : n = k
    · subst q
      rw [if_pos rfl, sm_congr (g := f) (fun j hj => if_neg (by omega))]
      omega
    · rw [if_neg q, ih (by omega)]
      omega
theorem sm_drop (f : Nat → Int) (k : Nat) : ∀ n, k ≤ n → sm n (fun j => if j < k then f j else f (j + 1)) = sm (n + 1) f - f k := by
  intro n
  induction n with
  | zero =>
    intro h
    have : k = 0 := by omega
    subst this
    show (0 : Int) = 0 + f 0 - f 0
    omega
  | succ n ih =>
    intro h
    by_cases q : k ≤ n
    · show sm n _ + (if n < k then f n else f (n + 1)) = sm (n + 1) f + f (n + 1) - f k
      rw [ih q, if_neg (by omega)]
      omega
    · have : k = n + 1 := by omega
      subst this
      rw [sm_congr (g := f) (fun j hj => if_pos hj)]
      show sm (n + 1) f = sm (n + 1) f + f (n + 1) - f (n + 1)
      omega
theorem va_up_id {α : Type} (f : Nat → α) (k : Nat) : va_up f k (f k) = f := by
  funext j
  unfold va_up
  by_cases q : j = k
  · rw [if_pos q, q]
  · rw [if_neg q]
/-- where i stands in a list -/
def plr (f : Nat → Nat) (n i : Nat) (r : Int32) : Prop := (∃ k, k < n ∧ f k = i ∧ r = i3 (k : Int) ∧ ∀ j, j < k → f j ≠ i) ∨ ((∀ k, k < n → f k ≠ i) ∧ r = -1)
theorem plr_ex (f : Nat → Nat) (n i : Nat) : ∃ r, plr f n i r := by
  induction n with
  | zero => exact ⟨-1, Or.inr ⟨fun k hk => absurd hk (Nat.not_lt_zero k), rfl⟩⟩
  | succ n ih =>
    obtain ⟨r, ⟨k, h1, h2, h3, h4⟩ | ⟨h1, h2⟩⟩ := ih
    · exact ⟨r, Or.inl ⟨k, by omega, h2, h3, h4⟩⟩
    · by_cases q : f n = i
      · exact ⟨i3 (n : Int), Or.inl ⟨n, by omega, q, rfl, fun j hj => h1 j hj⟩⟩
      · refine ⟨-1, Or.inr ⟨fun k hk => ?_, rfl⟩⟩
        by_cases e : k = n
        · rw [e]; exact q
        · exact h1 k (by omega)
theorem F3_placeOf_ok {z n : Nat} (hz : 20 ≤ z) (hn : n ≤ 8) {f : Nat → Nat} {list : Nat → Int32} (hf : ∀ k, k < n → list k = i3 (f k : Nat) ∧ f k < 1000) {i : Nat} (hi : i < 1000) {r : Int32} (hr : plr f n i r) : F3_placeOf z (i3 i) list (i3 n) = some r := by
  have loop : ∀ (rem w m : Nat), m + rem = n → rem < w → (∀ j, j < m → f j ≠ i) → F3_placeOf_b2 z w (i3 i) (i3 m) list (i3 n) = some r := by
    intro rem
    induction rem with
    | zero =>
      intro w m hm hw hj
      obtain ⟨w, rfl⟩ : ∃ w', w = w' + 1 := ⟨w - 1, by omega⟩
      unfold F3_placeOf_b2
      rw [if_pos (by rw [i3_le (by omega) (by omega) (by omega) (by omega)]; omega)]
      rcases hr with ⟨k, h1, h2, -⟩ | ⟨h1, h2⟩
      · exact absurd h2 (hj k (by omega))
      · rw [h2]
    | succ rem ih =>
      intro w m hm hw hj
      obtain ⟨w, rfl⟩ : ∃ w', w = w' + 1 := ⟨w - 1, by omega⟩
      obtain ⟨c1, c2⟩ := hf m (by omega)
      unfold F3_placeOf_b2
      rw [if_neg (by rw [i3_le (by omega) (by omega) (by omega) (by omega)]; omega)]
      simp (disch := omega) only [xg_in, i3_xnN]
      rw [c1]
      by_cases q : f m = i
      · rw [if_pos (by rw [q])]
        rcases hr with ⟨k, h1, h2, h3, h4⟩ | ⟨h1, h2⟩
        · have : k = m := by
            rcases Nat.lt_trichotomy k m with q2 | q2 | q2
            · exact absurd h2 (hj k q2)
            · exact q2
            · exact absurd q (h4 m q2)
          rw [h3, this]
        · exact absurd q (h1 m (by omega))
      · rw [if_neg (by rw [i3_eq (by omega) (by omega) (by omega) (by omega)]; omega), i3_l1, i3_add]
        refine ih w (m + 1) (by omega) (by omega) (fun j hj2 => ?_)
        by_cases e : j = m
        · rw [e]; exact q
        · exact hj j (by omega)
  exact loop n z 0 (by omega) (by omega) (fun j hj => absurd hj (Nat.not_lt_zero j))
theorem F10_entryOf_ok {z K : Nat} (hz : 200 ≤ z) {W : Nat → Int} {t : Int} {fo pN : Nat → Nat} {pI : Nat → Nat → Nat} {pW : Nat → Nat → Int} {pList pWei : Nat → Nat → Int32} {pMany pAll told many eights gains : Nat → Int32} (hM : SM K W t fo told many eights gains) (hP : PLr K fo pN pI pW pList pWei pMany pAll told) {s : Nat} (hs : s < 2) {i : Nat} (hi : i < 1000) {r : Int32} (hr : plr (pI s) (pN s) i r) : F10_entryOf z (i3 s) (i3 i) told many eights = some r := by
  have h8 := (hP s hs).1
  have n0 := ns_bd hM.1 (hM.2.1 s hs)
  have loop : ∀ (rem w m : Nat), m + rem = pN s → rem < w → (∀ j, j < m → pI s j ≠ i) → F10_entryOf_b2 z w (i3 s) (i3 i) (i3 m) told many eights = some r := by
    intro rem
    induction rem with
    | zero =>
      intro w m hm hw hj
      obtain ⟨w, rfl⟩ : ∃ w', w = w' + 1 := ⟨w - 1, by omega⟩
      unfold F10_entryOf_b2
      rw [F10_planned_ok hP hs]
      simp only [Option.bind_some]
      rw [if_pos (by rw [i3_le (by omega) (by omega) (by omega) (by omega)]; omega)]
      rcases hr with ⟨k, h1, h2, -⟩ | ⟨h1, h2⟩
      · exact absurd h2 (hj k (by omega))
      · rw [h2]
    | succ rem ih =>
      intro w m hm hw hj
      obtain ⟨w, rfl⟩ : ∃ w', w = w' + 1 := ⟨w - 1, by omega⟩
      have c1 := ((hP s hs).2.2.2.2.1 m (by omega)).1
      unfold F10_entryOf_b2
      rw [F10_planned_ok hP hs]
      simp only [Option.bind_some]
      rw [if_neg (by rw [i3_le (by omega) (by omega) (by omega) (by omega)]; omega), F10_planAt_ok hz hM hP hs (by omega)]
      simp only [Option.bind_some]
      by_cases q : pI s m = i
      · rw [if_pos (by rw [q])]
        rcases hr with ⟨k, h1, h2, h3, h4⟩ | ⟨h1, h2⟩
        · have : k = m := by
            rcases Nat.lt_trichotomy k m with q2 | q2 | q2
            · exact absurd h2 (hj k q2)
            · exact q2
            · exact absurd q (h4 m q2)
          rw [h3, this]
        · exact absurd q (h1 m (by omega))
      · rw [if_neg (by rw [i3_eq (by omega) (by omega) (by omega) (by omega)]; omega), i3_l1, i3_add]
        refine ih w (m + 1) (by omega) (by omega) (fun j hj2 => ?_)
        by_cases e : j = m
        · rw [e]; exact q
        · exact hj j (by omega)
  exact loop (pN s) z 0 (by omega) (by omega) (fun j hj => absurd hj (Nat.not_lt_zero j))
/-- books and setting keep when only the plan's places change -/
theorem BKr_off {K : Nat} {fo bN : Nat → Nat} {bI : Nat → Nat → Nat} {bList : Nat → Nat → Int32} {bMany told told' : Nat → Int32} (hB : BKr K fo bN bI bList bMany told) {s : Nat} (hs : s < 2) (ho : ∀ j, ¬ (8 + 24 * s + 7 ≤ j ∧ j < 8 + 24 * s + 24) → told' j = told j) : BKr K fo bN bI bList bMany told' := by
  intro s' hs'
  obtain ⟨c1, c2, c3, c4, c5⟩ := hB s' hs'
  refine ⟨c1, c2, ?_, fun k hk => ?_, c5⟩
  · rw [ho _ (by omega)]; exact c3
  · obtain ⟨d1, d2, d3⟩ := c4 k hk
    exact ⟨d1, d2, by rw [ho _ (by omega)]; exact d3⟩
theorem SM_off {K : Nat} {W : Nat → Int} {t : Int} {fo : Nat → Nat} {told told' many eights gains : Nat → Int32} (hM : SM K W t fo told many eights gains) {s : Nat} (ho : ∀ j, ¬ (8 + 24 * s + 7 ≤ j ∧ j < 8 + 24 * s + 24) → told' j = told j) : SM K W t fo told' many eights gains := by
  obtain ⟨m1, m2, m3, m4, m5, m6, m7, m8, m9⟩ := hM
  have := m1.2.1
  refine ⟨m1, m2, ?_, fun k hk => ?_, fun s' hs' => ?_, ?_, m7, m8, m9⟩
  · rw [ho _ (by omega)]; exact m3
  · rw [ho _ (by omega)]; exact m4 k hk
  · rw [ho _ (by omega)]; exact m5 s' hs'
  · rw [ho _ (by omega)]; exact m6
theorem PLr_put {K : Nat} {fo pN : Nat → Nat} {pI : Nat → Nat → Nat} {pW : Nat → Nat → Int} {pList pWei : Nat → Nat → Int32} {pMany pAll told told' : Nat → Int32} (hP : PLr K fo pN pI pW pList pWei pMany pAll told) {s : Nat} (hs : s < 2) (ho : ∀ j, ¬ (8 + 24 * s + 7 ≤ j ∧ j < 8 + 24 * s + 24) → told' j = told j) {n : Nat} {I : Nat → Nat} {V : Nat → Int} {list wei : Nat → Int32} {mm aa : Int32} (hn : n ≤ 8) (hm : mm = i3 (n : Nat)) (ht : told' (8 + 24 * s + 7) = i3 (n : Nat)) (ha : aa = i3 (sm n V)) (hk : ∀ k, k < n → I k < ns K (fo s) ∧ 1 ≤ V k ∧ V k ≤ 99 ∧ list k = i3 (I k : Nat) ∧ wei k = i3 (V k) ∧ told' (8 + 24 * s + 8 + k) = i3 (cd K (fo s) (I k) : Nat) ∧ told' (8 + 24 * s + 16 + k) = i3 (V k)) (hd : ∀ k j, k < n → j < n → k ≠ j → I k ≠ I j) : PLr K fo (va_up pN s n) (va_up pI s I) (va_up pW s V) (va_up pList s list) (va_up pWei s wei) (va_up pMany s mm) (va_up pAll s aa) told' := by
  intro s' hs'
  by_cases e : s' = s
  · subst e
    rw [va_up_self, va_up_self, va_up_self, va_up_self, va_up_self, va_up_self, va_up_self]
    exact ⟨hn, hm, ht, ha, hk, hd⟩
  · rw [va_up_ne _ _ e, va_up_ne _ _ e, va_up_ne _ _ e, va_up_ne _ _ e, va_up_ne _ _ e, va_up_ne _ _ e, va_up_ne _ _ e]
    obtain ⟨c1, c2, c3, c4, c5, c6⟩ := hP s' hs'
    refine ⟨c1, c2, ?_, c4, fun k hk => ?_, c6⟩
    · rw [ho _ (by omega)]; exact c3
    · obtain ⟨d1, d2, d3, d4, d5, d6, d7⟩ := c5 k hk
      exact ⟨d1, d2, d3, d4, d5, by rw [ho _ (by omega)]; exact d6, by rw [ho _ (by omega)]; exact d7⟩
theorem TNr_put {T : Nat} {tu : Nat → Nat} {dr : Nat → Nat → Nat} {pTurns : Nat → Int32} {pDrawn : Nat → Nat → Int32} {turns drawn : Nat → Int32} (hT : TNr T tu dr pTurns pDrawn turns drawn) {s : Nat} (hs : s < 2) {d d2 : Nat → Int32} (h1 : ∀ k, d k = if k < 8 then 0 else pDrawn s k) (h2 : ∀ j, d2 j = if 8 * s ≤ j ∧ j < 8 * s + 8 then 0 else drawn j) : TNr T (va_up tu s 0) (va_up dr s (fun _ => 0)) (va_up pTurns s 0) (va_up pDrawn s d) (upd turns s 0) d2 := by
  intro s' hs'
  by_cases e : s' = s
  · subst e
    rw [va_up_self, va_up_self, va_up_self, va_up_self, upd_same]
    refine ⟨Nat.zero_le _, rfl, rfl, fun k hk => ⟨Nat.zero_le _, ?_, ?_⟩⟩
    · rw [h1, if_pos hk]; rfl
    · rw [h2, if_pos (by omega)]; rfl
  · rw [va_up_ne _ _ e, va_up_ne _ _ e, va_up_ne _ _ e, va_up_ne _ _ e, upd_diff _ _ e]
    obtain ⟨c1, c2, c3, c4⟩ := hT s' hs'
    refine ⟨c1, c2, c3, fun k hk => ?_⟩
    obtain ⟨d1, d2', d3⟩ := c4 k hk
    exact ⟨d1, d2', by rw [h2, if_neg (by omega)]; exact d3⟩
