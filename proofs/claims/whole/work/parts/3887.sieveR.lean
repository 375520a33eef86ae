/-! ===== the class settles; the reference lays what is left ===== -/
theorem keepAll_ok {z n s : Nat} (hz : 200 ≤ z) (hn : n ≤ 120) (hs : s < 2) {smany : Nat → Int32} (hm : smany s = i3 (n : Nat)) (kept : Nat → Nat → Int32) (many : Nat → Int32) : ∃ kept', F5_keepAll z (i3 s) kept many smany = some (kept', upd many s (i3 (n : Nat))) ∧ (∀ i, i < n → kept' s i = i3 (i : Nat)) ∧ (∀ s', s' ≠ s → kept' s' = kept s') := by
  have loop : ∀ (rem w i : Nat) (kept1 : Nat → Nat → Int32), i + rem = n → rem < w → (∀ i', i' < i → kept1 s i' = i3 (i' : Nat)) → (∀ s', s' ≠ s → kept1 s' = kept s') → ∃ kept', F5_keepAll_b14 z w (i3 s) (i3 i) kept1 (upd many s (i3 (n : Nat))) smany = some (kept', upd many s (i3 (n : Nat))) ∧ (∀ i, i < n → kept' s i = i3 (i : Nat)) ∧ (∀ s', s' ≠ s → kept' s' = kept s') := by
    intro rem
    induction rem with
    | zero =>
      intro w i kept1 hi hw h h'
      obtain ⟨w, rfl⟩ : ∃ w', w = w' + 1 := ⟨w - 1, by omega⟩
      refine ⟨kept1, ?_, fun i' hi' => h i' (by omega), h'⟩
      unfold F5_keepAll_b14
      simp (disch := omega) only [xg_in, i3_xnN]
      rw [upd_same, if_pos (by rw [i3_le (by omega) (by omega) (by omega) (by omega)]; omega)]
    | succ rem ih =>
      intro w i kept1 hi hw h h'
      obtain ⟨w, rfl⟩ : ∃ w', w = w' + 1 := ⟨w - 1, by omega⟩
      unfold F5_keepAll_b14
      simp (disch := omega) only [xg_in, i3_xnN]
      rw [upd_same, if_neg (by rw [i3_le (by omega) (by omega) (by omega) (by omega)]; omega), show i3 (i : Int) + 1 = i3 ((i + 1 : Nat) : Int) from by rw [i3_l1, i3_add]; rfl]
      refine ih w (i + 1) _ (by omega) (by omega) (fun i' hi' => ?_) (fun s' hs' => by rw [va_up_ne _ _ hs']; exact h' s' hs')
      rw [va_up_self]
      by_cases e : i' = i
      · subst e; exact upd_same _ _ _
      · rw [upd_diff _ _ e]; exact h i' (by omega)
  unfold F5_keepAll
  simp (disch := omega) only [xg_in, i3_xnN]
  rw [hm]
  exact loop n z 0 kept (by omega) (by omega) (fun i hi => absurd hi (Nat.not_lt_zero i)) (fun _ _ => rfl)
theorem lfs_sym {K : Nat} {W : Nat → Int} {t : Int} (hV : Vd K W t) {fo : Nat → Nat} (hfo : ∀ s, s < 2 → fo s ≤ 7) (r : Nat) {s i : Nat} (hs : s < 2) (hi : i < ns K (fo s)) (hl : lfs K W t fo r s i = true) : lfs K W t fo r s (li K W (fo s) i) = true ∧ pd (Gs K W t fo (lfs K W t fo r) s (li K W (fo s) i)) = pd (Gs K W t fo (lfs K W t fo r) s i) := by
  have h1 := lfs_li hV hfo r hs hi
  have h2 := lfs_li hV hfo (r + 1) hs hi
  rw [lfs_succ, lfs_succ, h1, hl, Bool.true_and, Bool.true_and] at h2
  exact ⟨h1.trans hl, Bool.not_inj h2⟩
theorem settles_ok {z K : Nat} (hz : 1000 ≤ z) {W : Nat → Int} {t : Int} {fo : Nat → Nat} {fields ties : Int32} {worth forces smany : Nat → Int32} {codes : Nat → Nat → Int32} (hX : SX K W t fo fields ties worth forces smany codes) : ∀ (rem w r : Nat) (kept : Nat → Nat → Int32) (many : Nat → Int32) (goes : Nat → Nat → Int32) (row : Nat → Int32), r + rem = 240 → rem < w → (∀ r', r' < r → some_go K W t fo r') → KPs K fo (lfs K W t fo r) kept many → ∃ R kept' many' goes' row', last_go K W t fo R ∧ R ≤ 240 ∧ F5_settle_b32 z w (i3 r) kept many (i3 r) 0 goes row fields ties worth smany codes = some (kept', many', i3 (R : Nat), 0, goes', row') ∧ KPs K fo (lfs K W t fo R) kept' many' := by
  have hV := hX.1
  have hfo := hX.2.1
  have n0 := ns_bd hV (hfo 0 (by omega))
  have n1 := ns_bd hV (hfo 1 (by omega))
  intro rem
  induction rem with
  | zero =>
    intro w r kept many goes row hr hw hgo hk
    have := rounds_bd hV hfo hgo
    omega
  | succ rem ih =>
    intro w r kept many goes row hr hw hgo hk
    have rb := rounds_bd hV hfo hgo
    obtain ⟨w, rfl⟩ : ∃ w', w = w' + 1 := ⟨w - 1, by omega⟩
    have hne := lfs_ne hV hfo r
    obtain ⟨goes1, row1, e1, g1, o1⟩ := mark_ok (z := z) (by omega) hX hne hk (s := 0) (by omega) (fun i hi hl => lfs_sym hV hfo r (by omega) hi hl) goes row
    obtain ⟨goes2, row2, e2, g2, o2⟩ := mark_ok (z := z) (by omega) hX hne hk (s := 1) (by omega) (fun i hi hl => lfs_sym hV hfo r (by omega) hi hl) goes1 row1
    obtain ⟨kept1, e3, d1, q1⟩ := drop_ok (z := z) (n := ns K (fo 0)) (s := 0) (by omega) n0.1 (by omega) (L := lfs K W t fo r 0) (L2 := lfs K W t fo (r + 1) 0) (G := fun i => pd (Gs K W t fo (lfs K W t fo r) 0 i)) (fun i => rfl) (hk 0 (by omega)).1 (hk 0 (by omega)).2 (goes := goes2) (fun i hi hl => by rw [o2 0 (by omega)]; exact g1 i hi hl)
    obtain ⟨kept2, e4, d2, q2⟩ := drop_ok (z := z) (n := ns K (fo 1)) (s := 1) (by omega) n1.1 (by omega) (L := lfs K W t fo r 1) (L2 := lfs K W t fo (r + 1) 1) (G := fun i => pd (Gs K W t fo (lfs K W t fo r) 1 i)) (fun i => rfl) (kept := kept1) (many := upd many 0 (i3 (cf (lfs K W t fo (r + 1) 0) (ns K (fo 0)) : Nat))) ((upd_diff _ _ (by omega)).trans (hk 1 (by omega)).1) (fun c hc => by rw [q1 1 (by omega)]; exact (hk 1 (by omega)).2 c hc) (goes := goes2) (fun i hi hl => g2 i hi hl)
    have hk2 : KPs K fo (lfs K W t fo (r + 1)) kept2 (upd (upd many 0 (i3 (cf (lfs K W t fo (r + 1) 0) (ns K (fo 0)) : Nat))) 1 (i3 (cf (lfs K W t fo (r + 1) 1) (ns K (fo 1)) : Nat))) := by
      intro s hs
      rcases two_cases hs with rfl | rfl
      · refine ⟨by rw [upd_diff _ _ (by omega), upd_same], fun c hc => ?_⟩
        rw [q2 0 (by omega)]
        exact d1 c hc
      · exact ⟨by rw [upd_same], d2⟩
    have sg := cf_same (K := K) (W := W) (t := t) (fo := fo) (r := r)
    have e1' : F5_markBeaten z 0 kept many goes row fields ties worth smany codes = some (goes1, row1) := e1
    have e2' : F5_markBeaten z 1 kept many goes1 row1 fields ties worth smany codes = some (goes2, row2) := e2
    have e3' : F5_dropMarked z 0 kept many goes2 = _ := e3
    have e4' : F5_dropMarked z 1 kept1 (upd many 0 (i3 (cf (lfs K W t fo (r + 1) 0) (ns K (fo 0)) : Nat))) goes2 = _ := e4
    have more : some_go K W t fo r → ∃ R kept' many' goes' row', last_go K W t fo R ∧ R ≤ 240 ∧ F5_settle_b74 z (i3 r) 1 kept2 (upd (upd many 0 (i3 (cf (lfs K W t fo (r + 1) 0) (ns K (fo 0)) : Nat))) 1 (i3 (cf (lfs K W t fo (r + 1) 1) (ns K (fo 1)) : Nat))) (i3 r) 0 goes2 row2 fields ties worth smany codes (fun q0 q1 q2 q3 q4 q5 q6 q7 q8 q9 q10 q11 => F5_settle_b32 z w q0 q1 q2 q3 q4 q5 q6 q7 q8 q9 q10 q11) = some (kept', many', i3 (R : Nat), 0, goes', row') ∧ KPs K fo (lfs K W t fo R) kept' many' := by
      intro hs
      unfold F5_settle_b74
      rw [if_neg n10, show i3 (r : Int) + 1 = i3 ((r + 1 : Nat) : Int) from by rw [i3_l1, i3_add]; rfl]
      exact ih w (r + 1) kept2 _ goes2 row2 (by omega) (by omega) (fun r' hr' => by
        by_cases c : r' = r
        · rw [c]; exact hs
        · exact hgo r' (by omega)) hk2
    unfold F5_settle_b32
    rw [if_neg (show ¬ (240 : Int32) ≤ i3 (r : Int) by rw [show (240 : Int32) = i3 240 from rfl, i3_le (by omega) (by omega) (by omega) (by omega)]; omega), e1']
    simp only [Option.bind_some]
    rw [e2']
    simp only [Option.bind_some]
    rw [e3']
    simp only [Option.bind_some]
    rw [e4']
    simp only [Option.bind_some]
    by_cases c1 : cf (lfs K W t fo (r + 1) 1) (ns K (fo 1)) < cf (lfs K W t fo r 1) (ns K (fo 1))
    · rw [if_pos c1, if_neg n10]
      exact more (sg.mpr (Or.inr c1))
    · rw [if_neg c1]
      simp only [if_true]
      by_cases c0 : cf (lfs K W t fo (r + 1) 0) (ns K (fo 0)) < cf (lfs K W t fo r 0) (ns K (fo 0))
      · rw [if_pos c0, if_neg n10]
        exact more (sg.mpr (Or.inl c0))
      · rw [if_neg c0]
        simp only [if_true]
        have hn : ¬ some_go K W t fo r := fun h => by
          rcases sg.mp h with h | h
          · exact c0 h
          · exact c1 h
        have same : ∀ s i, s < 2 → i < ns K (fo s) → lfs K W t fo (r + 1) s i = lfs K W t fo r s i := fun s i hs hi => by
          cases c : lfs K W t fo r s i
          · cases d : lfs K W t fo (r + 1) s i
            · rfl
            · rw [lfs_sub d] at c; exact absurd c (by decide)
          · cases d : lfs K W t fo (r + 1) s i
            · exact absurd ⟨s, i, hs, hi, c, d⟩ hn
            · rfl
        have fe : ∀ s, s < 2 → lfs K W t fo (r + 1) s = lfs K W t fo r s := fun s hs => by
          funext i
          by_cases hi : i < ns K (fo s)
          · exact same s i hs hi
          · have a1 : lfs K W t fo (r + 1) s i = false := by
              cases c : lfs K W t fo (r + 1) s i
              · rfl
              · exact absurd (lfs_lt c) hi
            have a2 : lfs K W t fo r s i = false := by
              cases c : lfs K W t fo r s i
              · rfl
              · exact absurd (lfs_lt c) hi
            rw [a1, a2]
        refine ⟨r, kept2, _, goes2, row2, ⟨hgo, hn⟩, by omega, rfl, fun s hs => ?_⟩
        have := hk2 s hs
        rw [fe s hs] at this
        exact this
theorem settle_ok {z K : Nat} (hz : 1000 ≤ z) {W : Nat → Int} {t : Int} {fo : Nat → Nat} {fields ties : Int32} {worth forces smany : Nat → Int32} {codes : Nat → Nat → Int32} (hX : SX K W t fo fields ties worth forces smany codes) {kept : Nat → Nat → Int32} {many : Nat → Int32} {turns stale : Int32} (hS : SVx K W t fo kept many turns stale) (goes : Nat → Nat → Int32) (row : Nat → Int32) : ∃ R kept' many' goes' row', last_go K W t fo R ∧ R ≤ 240 ∧ F5_settle z kept many turns stale goes row fields ties worth smany codes = some (kept', many', i3 (R : Nat), 0, goes', row') ∧ KPs K fo (lfs K W t fo R) kept' many' := by
  have hV := hX.1
  have hfo := hX.2.1
  have n0 := ns_bd hV (hfo 0 (by omega))
  have n1 := ns_bd hV (hfo 1 (by omega))
  unfold F5_settle
  rcases hS with rfl | ⟨rfl, R, h1, h2, rfl, h3⟩
  · rw [if_neg n10]
    obtain ⟨k1, e1, a1, b1⟩ := keepAll_ok (z := z) (n := ns K (fo 0)) (s := 0) (by omega) n0.1 (by omega) (hX.2.2.2.2.2.2.1 0 (by omega)) kept many
    obtain ⟨k2, e2, a2, b2⟩ := keepAll_ok (z := z) (n := ns K (fo 1)) (s := 1) (by omega) n1.1 (by omega) (hX.2.2.2.2.2.2.1 1 (by omega)) k1 (upd many 0 (i3 (ns K (fo 0) : Nat)))
    have e1' : F5_keepAll z 0 kept many smany = _ := e1
    have e2' : F5_keepAll z 1 k1 (upd many 0 (i3 (ns K (fo 0) : Nat))) smany = _ := e2
    rw [e1']
    simp only [Option.bind_some]
    rw [e2']
    simp only [Option.bind_some]
    refine settles_ok hz hX 240 z 0 k2 _ goes row (by omega) (by omega) (fun r hr => absurd hr (Nat.not_lt_zero r)) (fun s hs => ?_)
    have all0 : ∀ m, m ≤ ns K (fo s) → cf (lfs K W t fo 0 s) m = m := fun m hm => cf_all (fun i hi => decide_eq_true (by omega))
    have gt0 : ∀ c, c < ns K (fo s) → gt (lfs K W t fo 0 s) (ns K (fo s)) c = c := fun c hc => by
      have := gt_at (p := lfs K W t fo 0 s) (n := ns K (fo s)) (i := c) hc (decide_eq_true hc)
      rw [all0 c (by omega)] at this
      exact this
    rw [all0 _ (Nat.le_refl _)]
    rcases two_cases hs with rfl | rfl
    · refine ⟨by rw [upd_diff _ _ (by omega), upd_same], fun c hc => ?_⟩
      rw [b2 0 (by omega), a1 c hc, gt0 c hc]
    · exact ⟨by rw [upd_same], fun c hc => by rw [a2 c hc, gt0 c hc]⟩
  · rw [if_pos rfl]
    exact ⟨R, kept, many, goes, row, h1, h2, rfl, h3⟩
/-! the reference -/
theorem isGoing_ok {z K : Nat} (hz : 200 ≤ z) {W : Nat → Int} {t : Int} {fo : Nat → Nat} {told many eights gains : Nat → Int32} (hM : SM K W t fo told many eights gains) {L : Nat → Nat → Bool} {isLeft : Nat → Int32} (hL : ∀ s i, s < 2 → i < ns K (fo s) → isLeft (128 * s + i) = i3 (if L s i then 1 else 0)) {s i : Nat} (hs : s < 2) (hi : i < ns K (fo s)) : F10_isGoing z (i3 s) (i3 i) many gains isLeft = some (i3 (if pd (Gs K W t fo L s i) then 1 else 0)) := by
  have n0 := ns_bd hM.1 (hM.2.1 s hs)
  have hm := hM.2.2.2.2.2.2.1 s hs
  have yes : ∀ (w j : Nat), F10_isGoing_b5 z (w + 1) (i3 s) (i3 i) 1 (i3 j) many gains isLeft = some 1 := by
    intro w j
    unfold F10_isGoing_b5
    simp (disch := omega) only [xg_in, i3_xnN]
    rw [if_neg n10]
    split <;> rfl
  have loop : ∀ (rem w j : Nat), j + rem = ns K (fo s) → rem + 1 < w → ((∃ j', j ≤ j' ∧ j' < ns K (fo s) ∧ L s j' = true ∧ wrs (gsd K W t fo s i) (gsd K W t fo s j') (ns K (fo (1 - s))) (L (1 - s)) true 0 0) → F10_isGoing_b5 z w (i3 s) (i3 i) 0 (i3 j) many gains isLeft = some 1) ∧ ((¬ ∃ j', j ≤ j' ∧ j' < ns K (fo s) ∧ L s j' = true ∧ wrs (gsd K W t fo s i) (gsd K W t fo s j') (ns K (fo (1 - s))) (L (1 - s)) true 0 0) → F10_isGoing_b5 z w (i3 s) (i3 i) 0 (i3 j) many gains isLeft = some 0) := by
    intro rem
    induction rem with
    | zero =>
      intro w j hj hw
      obtain ⟨w, rfl⟩ : ∃ w', w = w' + 1 := ⟨w - 1, by omega⟩
      unfold F10_isGoing_b5
      simp (disch := omega) only [xg_in, i3_xnN]
      rw [hm, if_pos (show i3 (ns K (fo s) : Nat) ≤ i3 (j : Int) by rw [i3_le (by omega) (by omega) (by omega) (by omega)]; omega)]
      exact ⟨fun ⟨j', h1, h2, _⟩ => by omega, fun _ => rfl⟩
    | succ rem ih =>
      intro w j hj hw
      obtain ⟨w, rfl⟩ : ∃ w', w = w' + 1 := ⟨w - 1, by omega⟩
      have hj' : j < ns K (fo s) := by omega
      obtain ⟨i1, i2⟩ := ih w (j + 1) (by omega) (by omega)
      have e1 : (128 : Int32) * i3 (s : Int) + i3 (j : Int) = i3 ((128 * s + j : Nat) : Int) := by
        rw [i3_l128, i3_mul, i3_add]; congr 1
      have wo := F10_isWorse_ok hz hM hs hi hj' (be := true) (al := false) (L := L (1 - s)) (isLeft := isLeft) (fun k hk => Or.inr ⟨rfl, hL (1 - s) k (by omega) hk⟩)
      unfold F10_isGoing_b5 F10_isGoing_b54
      simp only [e1]
      simp (disch := omega) only [xg_in, i3_xnN]
      rw [hm, if_neg (show ¬ i3 (ns K (fo s) : Nat) ≤ i3 (j : Int) by rw [i3_le (by omega) (by omega) (by omega) (by omega)]; omega), hL s j hs hj', show i3 (j : Int) + 1 = i3 ((j + 1 : Nat) : Int) from by rw [i3_l1, i3_add]; rfl]
      simp only [if_true]
      cases hl : L s j
      · rw [if_pos (show i3 (if false = true then 1 else 0) = 0 from rfl)]
        refine ⟨fun ⟨j', h1, h2, h3, h4⟩ => i1 ⟨j', ?_, h2, h3, h4⟩, fun h => i2 (fun ⟨j', h1, h2⟩ => h ⟨j', by omega, h2⟩)⟩
        by_cases c : j' = j
        · subst c; rw [hl] at h3; exact absurd h3 (by decide)
        · omega
      · rw [if_neg (show ¬ i3 (if true = true then 1 else 0) = 0 from n10)]
        by_cases q : wrs (gsd K W t fo s i) (gsd K W t fo s j) (ns K (fo (1 - s))) (L (1 - s)) true 0 0
        · have wo1 : F10_isWorse z (i3 s) (i3 i) (i3 j) 1 0 many gains isLeft = some 1 := wo.1 q
          rw [wo1]
          simp only [Option.bind_some]
          rw [if_neg n10]
          obtain ⟨w, rfl⟩ : ∃ w', w = w' + 1 := ⟨w - 1, by omega⟩
          exact ⟨fun _ => yes w (j + 1), fun h => absurd ⟨j, Nat.le_refl _, hj', hl, q⟩ h⟩
        · have wo0 : F10_isWorse z (i3 s) (i3 i) (i3 j) 1 0 many gains isLeft = some 0 := wo.2 q
          rw [wo0]
          simp only [Option.bind_some, if_true]
          refine ⟨fun ⟨j', h1, h2, h3, h4⟩ => i1 ⟨j', ?_, h2, h3, h4⟩, fun h => i2 (fun ⟨j', h1, h2⟩ => h ⟨j', by omega, h2⟩)⟩
          by_cases c : j' = j
          · subst c; exact absurd h4 q
          · omega
  obtain ⟨l1, l2⟩ := loop (ns K (fo s)) z 0 (by omega) (by omega)
  unfold F10_isGoing
  by_cases q : Gs K W t fo L s i
  · rw [pd_t.mpr q]
    obtain ⟨j, h1, h2⟩ := q
    exact l1 ⟨j, Nat.zero_le _, h1, h2⟩
  · rw [pd_f.mpr q]
    exact l2 (fun ⟨j, _, h⟩ => q ⟨j, h⟩)
theorem dm128 {x : Nat} (hx : x < 256) : i3 (x : Int) / 128 = i3 ((x / 128 : Nat) : Int) ∧ i3 (x : Int) - i3 ((x / 128 : Nat) : Int) * 128 = i3 ((x % 128 : Nat) : Int) := by
  constructor
  · rw [i3_l128, i3_div (by omega) (by omega) (by omega) (by omega)]
    congr 1
  · rw [i3_l128, i3_mul, i3_sub]
    congr 1
    omega
theorem nar0 : vp_nar .boolean 0 = 0 := rfl
theorem nar1 : vp_nar .boolean 1 = 1 := rfl
def anb (p : Nat → Bool) : Nat → Bool
  | 0 => false
  | n + 1 => anb p n || p n
theorem anb_iff (p : Nat → Bool) : ∀ n, anb p n = true ↔ ∃ i, i < n ∧ p i = true := by
  intro n
  induction n with
  | zero => exact ⟨fun h => Bool.noConfusion (show false = true from h), fun ⟨i, hi, _⟩ => absurd hi (Nat.not_lt_zero i)⟩
  | succ n ih =>
    show (anb p n || p n) = true ↔ _
    rw [Bool.or_eq_true, ih]
    constructor
    · rintro (⟨i, h1, h2⟩ | h)
      · exact ⟨i, by omega, h2⟩
      · exact ⟨n, by omega, h⟩
    · intro ⟨i, h1, h2⟩
      by_cases e : i = n
      · subst e; exact Or.inr h2
      · exact Or.inl ⟨i, by omega, h2⟩
