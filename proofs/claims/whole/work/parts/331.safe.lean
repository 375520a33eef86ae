/-! ===== calls: splits, number, gain, worse, safe ===== -/
theorem call_splits {K : Nat} {W : Nat → Int} {t : Int} {fo : Nat → Nat} {fields ties : Int32} {worth forces many : Nat → Int32} {codes : Nat → Nat → Int32} (hX : SX K W t fo fields ties worth forces many codes) {told many' eights gains : Nat → Int32} (hM : SM K W t fo told many' eights gains) (x1 thrown : Int32) : ∃ v, F9_splits x1 many = some v ∧ F10_splits x1 thrown many' = some (v, 0) := by
  obtain ⟨a, rfl, h1, h2⟩ := i3_ex x1
  unfold F9_splits F10_splits
  rw [isSide9 a h1 h2, isSide10 a h1 h2]
  simp only [Option.bind_some]
  by_cases e : a = 0 ∨ a = 1
  · obtain ⟨s, hs, ea⟩ : ∃ s : Nat, s < 2 ∧ a = s := ⟨a.toNat, by omega, by omega⟩
    subst ea
    rw [if_pos e, if_neg (by decide), if_neg (by decide), xg_in _ (by omega) (by omega) (by omega), xg_in _ (by omega) (by omega) (by omega), i3_xnN (by omega), hX.2.2.2.2.2.2.1 s hs, hM.2.2.2.2.2.2.1 s hs]
    exact ⟨_, rfl, rfl⟩
  · rw [if_neg e]
    exact ⟨_, rfl, rfl⟩
theorem call_number {z K : Nat} (hz : 1000 ≤ z) {W : Nat → Int} {t : Int} {fo : Nat → Nat} {fields ties : Int32} {worth forces many : Nat → Int32} {codes : Nat → Nat → Int32} (hX : SX K W t fo fields ties worth forces many codes) {told many' eights gains : Nat → Int32} (hM : SM K W t fo told many' eights gains) (x1 x2 thrown : Int32) : ∃ v, F9_number z x1 x2 many codes = some v ∧ F10_number z x1 x2 thrown many' eights = some (v, 0) := by
  obtain ⟨a, rfl, h1, h2⟩ := i3_ex x1
  unfold F9_number F10_number
  rw [isSide9 a h1 h2, isSide10 a h1 h2]
  simp only [Option.bind_some]
  by_cases e : a = 0 ∨ a = 1
  · obtain ⟨s, hs, ea⟩ : ∃ s : Nat, s < 2 ∧ a = s := ⟨a.toNat, by omega, by omega⟩
    subst ea
    rw [if_pos e, if_neg (by decide), if_neg (by decide), F4_numberOf_ok hX hs (by omega), F10_numberOf_ok hM hs (by omega)]
    exact ⟨_, rfl, rfl⟩
  · rw [if_neg e]
    exact ⟨_, rfl, rfl⟩
theorem call_gain {z K : Nat} (hz : 1000 ≤ z) {W : Nat → Int} {t : Int} {fo : Nat → Nat} {fields ties : Int32} {worth forces many : Nat → Int32} {codes : Nat → Nat → Int32} (hX : SX K W t fo fields ties worth forces many codes) {told many' eights gains : Nat → Int32} (hM : SM K W t fo told many' eights gains) (x1 x2 thrown : Int32) : ∃ v, F9_gain z x1 x2 fields ties worth many codes = some v ∧ F10_gain x1 x2 thrown many' gains = some (v, 0) := by
  obtain ⟨a, rfl, h1, h2⟩ := i3_ex x1
  obtain ⟨b, rfl, h3, h4⟩ := i3_ex x2
  unfold F9_gain F10_gain
  by_cases e1 : isp K fo 0 a
  · obtain ⟨s, i, es, rfl, hs, hi⟩ := e1
    have es0 : s = 0 := by omega
    subst es0
    have y1 : F4_isSplit 0 (i3 i) many = some 1 := isSplit4_yes hX (s := 0) (by omega) hi
    have y2 : F10_isSplit 0 (i3 i) many' = some 1 := isSplit10_yes hM (s := 0) (by omega) hi
    rw [y1, y2]
    simp only [Option.bind_some]
    rw [if_neg (by decide), if_neg (by decide)]
    by_cases e2 : isp K fo 1 b
    · obtain ⟨s, j, es, rfl, hs, hj⟩ := e2
      have es0 : s = 1 := by omega
      subst es0
      have y3 : F4_isSplit 1 (i3 j) many = some 1 := isSplit4_yes hX (s := 1) (by omega) hj
      have y4 : F10_isSplit 1 (i3 j) many' = some 1 := isSplit10_yes hM (s := 1) (by omega) hj
      rw [y3, y4]
      simp only [Option.bind_some]
      rw [if_neg (by decide), if_neg (by decide)]
      have g1 : F4_gainFor z 0 (i3 i) (i3 j) fields ties worth codes = some (i3 (gsd K W t fo 0 i j)) := F4_gainFor_ok hX (show 10 ≤ z by omega) (s := 0) (by omega) hi hj
      have g2 : F10_gainFor 0 (i3 i) (i3 j) gains = some (i3 (gsd K W t fo 0 i j)) := F10_gainFor_ok hM (s := 0) (by omega) hi hj
      unfold F10_gainFor at g2
      rw [if_pos rfl] at g2
      rw [g1]
      simp only [Option.bind_some]
      refine ⟨_, rfl, ?_⟩
      revert g2
      cases xin (128 * i3 (i : Int) + i3 (j : Int)) 16384 with
      | false => intro q; exact absurd q (by simp [xg])
      | true =>
        intro q
        have q' : some (gains (xn (128 * i3 (i : Int) + i3 (j : Int)))) = some (i3 (gsd K W t fo 0 i j)) := q
        rw [Option.some.injEq] at q'
        show some (gains (xn (128 * i3 (i : Int) + i3 (j : Int))), (0 : Int32)) = _
        rw [q']
    · have y3 : F4_isSplit 1 (i3 b) many = some 0 := isSplit4_no hX (a := 1) (by omega) (by omega) h3 h4 e2
      have y4 : F10_isSplit 1 (i3 b) many' = some 0 := isSplit10_no hM (a := 1) (by omega) (by omega) h3 h4 e2
      rw [y3, y4]
      exact ⟨_, rfl, rfl⟩
  · have y1 : F4_isSplit 0 (i3 a) many = some 0 := isSplit4_no hX (a := 0) (by omega) (by omega) h1 h2 e1
    have y2 : F10_isSplit 0 (i3 a) many' = some 0 := isSplit10_no hM (a := 0) (by omega) (by omega) h1 h2 e1
    rw [y1, y2]
    exact ⟨_, rfl, rfl⟩
theorem worse9 {z K : Nat} (hz : 1000 ≤ z) {W : Nat → Int} {t : Int} {fo : Nat → Nat} {fields ties : Int32} {worth forces many : Nat → Int32} {codes : Nat → Nat → Int32} (hX : SX K W t fo fields ties worth forces many codes) {s i : Nat} (hs : s < 2) (hi : i < ns K (fo s)) (be : Bool) : ∀ (rem w j : Nat), j + rem = ns K (fo s) → rem < w → F9_worse_b17 z w (i3 s) (i3 i) (i3 (if be then 1 else 0)) (i3 j) fields ties worth many codes = some (i3 (fw (fun j => pd (wrs (gsd K W t fo s i) (gsd K W t fo s j) (ns K (fo (1 - s))) (fun _ => true) be 0 0)) j rem)) := by
  have hV := hX.1
  have n0 := ns_bd hV (hX.2.1 s hs)
  have n1 := ns_bd hV (hX.2.1 (1 - s) (by omega))
  have hm := hX.2.2.2.2.2.2.1 s hs
  intro rem
  induction rem with
  | zero =>
    intro w j hj hw
    obtain ⟨w, rfl⟩ : ∃ w', w = w' + 1 := ⟨w - 1, by omega⟩
    unfold F9_worse_b17
    rw [xg_in _ (by omega) (by omega) (by omega), i3_xnN (by omega), hm, if_pos (by rw [i3_le (by omega) (by omega) (by omega) (by omega)]; omega)]
    rfl
  | succ rem ih =>
    intro w j hj hw
    obtain ⟨w, rfl⟩ : ∃ w', w = w' + 1 := ⟨w - 1, by omega⟩
    have hcc : ((j : Nat) : Int) + 1 = ((j + 1 : Nat) : Int) := by omega
    unfold F9_worse_b17 F9_worse_b69
    rw [xg_in _ (by omega) (by omega) (by omega), i3_xnN (by omega), hm, if_neg (by rw [i3_le (by omega) (by omega) (by omega) (by omega)]; omega)]
    show _ = some (i3 (if pd (wrs (gsd K W t fo s i) (gsd K W t fo s j) (ns K (fo (1 - s))) (fun _ => true) be 0 0) = true then (j : Int) else fw _ (j + 1) rem))
    cases be with
    | false =>
      rw [if_pos (show i3 (if false = true then 1 else 0) = 0 from rfl)]
      have h6 := F4_isWorse_b6_ok (show 10 ≤ z by omega) hX hs hi (show j < ns K (fo s) by omega) (ns K (fo (1 - s))) z 0 0 (by omega) (by omega) (Or.inl rfl)
      by_cases q : wrs (gsd K W t fo s i) (gsd K W t fo s j) (ns K (fo (1 - s))) (fun _ => true) false 0 0
      · have e : F4_isWorse z (i3 s) (i3 i) (i3 j) fields ties worth many codes = some 1 := h6.1 q
        rw [e, if_pos (pd_t.mpr q)]
        rfl
      · have e : F4_isWorse z (i3 s) (i3 i) (i3 j) fields ties worth many codes = some 0 := h6.2 q
        rw [e, if_neg (fun q2 => q (pd_t.mp q2))]
        simp only [Option.bind_some, if_true]
        rw [i3_l1, i3_add, hcc]
        exact ih w (j + 1) (by omega) (by omega)
    | true =>
      rw [if_neg (show ¬ i3 (if true = true then 1 else 0) = 0 by decide)]
      have h6 := F4_isBeaten_b3_ok (show 10 ≤ z by omega) hX hs hi (show j < ns K (fo s) by omega) (ns K (fo (1 - s))) z 0 (by omega) (by omega)
      have hiff : wrs (gsd K W t fo s i) (gsd K W t fo s j) (ns K (fo (1 - s))) (fun _ => true) true 0 0 ↔ (∀ k', 0 ≤ k' → k' < ns K (fo (1 - s)) → gsd K W t fo s i k' < gsd K W t fo s j k') := by
        constructor
        · intro q k' h1 h2
          exact (q.1 k' h1 h2 rfl).1 rfl
        · intro q
          refine ⟨fun k' h1 h2 _ => ⟨fun _ => q k' h1 h2, by have := q k' h1 h2; omega⟩, Or.inr ⟨0, Nat.le_refl _, by omega, rfl, q 0 (Nat.le_refl _) (by omega)⟩⟩
      by_cases q : wrs (gsd K W t fo s i) (gsd K W t fo s j) (ns K (fo (1 - s))) (fun _ => true) true 0 0
      · have e : F4_isBeaten z (i3 s) (i3 i) (i3 j) fields ties worth many codes = some 1 := h6.1 (hiff.mp q)
        rw [e, if_pos (pd_t.mpr q)]
        rfl
      · have e : F4_isBeaten z (i3 s) (i3 i) (i3 j) fields ties worth many codes = some 0 := h6.2 (fun q2 => q (hiff.mpr q2))
        rw [e, if_neg (fun q2 => q (pd_t.mp q2))]
        simp only [Option.bind_some, if_true]
        rw [i3_l1, i3_add, hcc]
        exact ih w (j + 1) (by omega) (by omega)
theorem worse10 {z K : Nat} (hz : 1000 ≤ z) {W : Nat → Int} {t : Int} {fo : Nat → Nat} {told many eights gains : Nat → Int32} (hM : SM K W t fo told many eights gains) {s i : Nat} (hs : s < 2) (hi : i < ns K (fo s)) (be : Bool) {isLeft : Nat → Int32} : ∀ (rem w j : Nat), j + rem = ns K (fo s) → rem < w → F10_worse_b19 z w (i3 s) (i3 i) (i3 (if be then 1 else 0)) (i3 j) 0 many gains isLeft = some (i3 (fw (fun j => pd (wrs (gsd K W t fo s i) (gsd K W t fo s j) (ns K (fo (1 - s))) (fun _ => true) be 0 0)) j rem), 0) := by
  have hV := hM.1
  have n0 := ns_bd hV (hM.2.1 s hs)
  have hm := hM.2.2.2.2.2.2.1 s hs
  intro rem
  induction rem with
  | zero =>
    intro w j hj hw
    obtain ⟨w, rfl⟩ : ∃ w', w = w' + 1 := ⟨w - 1, by omega⟩
    unfold F10_worse_b19
    rw [xg_in _ (by omega) (by omega) (by omega), i3_xnN (by omega), hm, if_pos (by rw [i3_le (by omega) (by omega) (by omega) (by omega)]; omega)]
    rfl
  | succ rem ih =>
    intro w j hj hw
    obtain ⟨w, rfl⟩ : ∃ w', w = w' + 1 := ⟨w - 1, by omega⟩
    have hcc : ((j : Nat) : Int) + 1 = ((j + 1 : Nat) : Int) := by omega
    unfold F10_worse_b19
    rw [xg_in _ (by omega) (by omega) (by omega), i3_xnN (by omega), hm, if_neg (by rw [i3_le (by omega) (by omega) (by omega) (by omega)]; omega)]
    show _ = some (i3 (if pd (wrs (gsd K W t fo s i) (gsd K W t fo s j) (ns K (fo (1 - s))) (fun _ => true) be 0 0) = true then (j : Int) else fw _ (j + 1) rem), 0)
    have h6 := F10_isWorse_ok (show 200 ≤ z by omega) hM hs hi (show j < ns K (fo s) by omega) (be := be) (al := true) (L := fun _ => true) (isLeft := isLeft) (fun k _ => Or.inl ⟨rfl, rfl⟩)
    by_cases q : wrs (gsd K W t fo s i) (gsd K W t fo s j) (ns K (fo (1 - s))) (fun _ => true) be 0 0
    · have e : F10_isWorse z (i3 s) (i3 i) (i3 j) (i3 (if be then 1 else 0)) 1 many gains isLeft = some 1 := h6.1 q
      rw [e, if_pos (pd_t.mpr q)]
      rfl
    · have e : F10_isWorse z (i3 s) (i3 i) (i3 j) (i3 (if be then 1 else 0)) 1 many gains isLeft = some 0 := h6.2 q
      rw [e, if_neg (fun q2 => q (pd_t.mp q2))]
      simp only [Option.bind_some, if_true]
      rw [i3_l1, i3_add, hcc]
      exact ih w (j + 1) (by omega) (by omega)
theorem call_worse {z K : Nat} (hz : 1000 ≤ z) {W : Nat → Int} {t : Int} {fo : Nat → Nat} {fields ties : Int32} {worth forces many : Nat → Int32} {codes : Nat → Nat → Int32} (hX : SX K W t fo fields ties worth forces many codes) {told many' eights gains : Nat → Int32} (hM : SM K W t fo told many' eights gains) (x1 x2 x3 thrown : Int32) (h3' : x3 = 0 ∨ x3 = 1) (isLeft : Nat → Int32) : ∃ v, F9_worse z x1 x2 x3 fields ties worth many codes = some v ∧ F10_worse z x1 x2 x3 thrown many' gains isLeft = some (v, 0) := by
  obtain ⟨a, rfl, h1, h2⟩ := i3_ex x1
  obtain ⟨b, rfl, h3, h4⟩ := i3_ex x2
  unfold F9_worse F10_worse
  by_cases e1 : isp K fo a b
  · obtain ⟨s, i, rfl, rfl, hs, hi⟩ := e1
    rw [isSplit4_yes hX hs hi, isSplit10_yes hM hs hi]
    simp only [Option.bind_some]
    rw [if_neg (by decide), if_neg (by decide)]
    have n0 := ns_bd hX.1 (hX.2.1 s hs)
    have key : ∀ be : Bool, ∃ v, F9_worse_b17 z z (i3 s) (i3 i) (i3 (if be then 1 else 0)) 0 fields ties worth many codes = some v ∧ F10_worse_b19 z z (i3 s) (i3 i) (i3 (if be then 1 else 0)) 0 0 many' gains isLeft = some (v, 0) := fun be => ⟨_, worse9 hz hX hs hi be (ns K (fo s)) z 0 (by omega) (by omega), worse10 hz hM hs hi be (ns K (fo s)) z 0 (by omega) (by omega)⟩
    rcases h3' with e | e
    · subst e; exact key false
    · subst e; exact key true
  · rw [isSplit4_no hX h1 h2 h3 h4 e1, isSplit10_no hM h1 h2 h3 h4 e1]
    exact ⟨_, rfl, rfl⟩
/-- the least of some numbers -/
def isMin (f : Nat → Int) (N : Nat) (m : Int) : Prop := (∀ k, k < N → m ≤ f k) ∧ ∃ k, k < N ∧ m = f k
theorem isMin_uniq {f : Nat → Int} {N : Nat} {m m' : Int} (h : isMin f N m) (h' : isMin f N m') : m = m' := by
  obtain ⟨h1, k, hk, e⟩ := h
  obtain ⟨h1', k', hk', e'⟩ := h'
  have := h1 k' hk'
  have := h1' k hk
  omega
theorem F4_leastGain_b7_ok {z K : Nat} (hz : 10 ≤ z) {W : Nat → Int} {t : Int} {fo : Nat → Nat} {fields ties : Int32} {worth forces many : Nat → Int32} {codes : Nat → Nat → Int32} (hX : SX K W t fo fields ties worth forces many codes) {s i : Nat} (hs : s < 2) (hi : i < ns K (fo s)) {en : Int} (hen : -8 ≤ en ∧ en ≤ 8) : ∀ (rem w k : Nat) (l : Int), k + rem = ns K (fo (1 - s)) → rem < w → -8 ≤ l → l ≤ 8 → (∀ k', k' < k → l ≤ gsd K W t fo s i k') → ((k = 0 ∧ l = 8) ∨ ∃ k', k' < k ∧ l = gsd K W t fo s i k') → ∃ v, F4_leastGain_b7 z w (i3 s) (i3 i) (i3 en) (i3 l) (i3 k) fields ties worth many codes = some (i3 v) ∧ -8 ≤ v ∧ v ≤ 8 ∧ (isMin (gsd K W t fo s i) (ns K (fo (1 - s))) v ∨ (v ≤ en ∧ ∀ m, isMin (gsd K W t fo s i) (ns K (fo (1 - s))) m → m ≤ v)) := by
  have hV := hX.1
  have hs' : 1 - s < 2 := by omega
  have n1 := ns_bd hV (hX.2.1 (1 - s) hs')
  have hm := hX.2.2.2.2.2.2.1 (1 - s) hs'
  intro rem
  induction rem with
  | zero =>
    intro w k l hk hw l1 l2 hl hex
    obtain ⟨w, rfl⟩ : ∃ w', w = w' + 1 := ⟨w - 1, by omega⟩
    refine ⟨l, ?_, l1, l2, Or.inl ⟨fun k' hk' => hl k' (by omega), ?_⟩⟩
    · unfold F4_leastGain_b7
      rw [one_sub hs, xg_in _ (by omega) (by omega) (by omega), i3_xnN (by omega), hm, if_pos (by rw [i3_le (by omega) (by omega) (by omega) (by omega)]; omega)]
    · rcases hex with q | ⟨k', h1, h2⟩
      · omega
      · exact ⟨k', by omega, h2⟩
  | succ rem ih =>
    intro w k l hk hw l1 l2 hl hex
    obtain ⟨w, rfl⟩ : ∃ w', w = w' + 1 := ⟨w - 1, by omega⟩
    have hcc : ((k : Nat) : Int) + 1 = ((k + 1 : Nat) : Int) := by omega
    have g1 := gsd_bd (fo := fo) hV s i k
    unfold F4_leastGain_b7
    rw [one_sub hs, xg_in _ (by omega) (by omega) (by omega), i3_xnN (by omega), hm, if_neg (by rw [i3_le (by omega) (by omega) (by omega) (by omega)]; omega)]
    by_cases q : l ≤ en
    · rw [if_pos (by rw [i3_le (by omega) (by omega) (by omega) (by omega)]; exact q)]
      refine ⟨l, rfl, l1, l2, Or.inr ⟨q, fun m hmin => ?_⟩⟩
      rcases hex with ⟨-, e⟩ | ⟨k', h1, h2⟩
      · have := hmin.1 0 (by omega)
        have := gsd_bd (fo := fo) hV s i 0
        omega
      · have := hmin.1 k' (by omega)
        omega
    · rw [if_neg (by rw [i3_le (by omega) (by omega) (by omega) (by omega)]; exact q), F4_gainFor_ok hX hz hs hi (show k < ns K (fo (1 - s)) by omega)]
      simp only [Option.bind_some]
      rw [i3_l1, i3_add, hcc]
      by_cases q2 : gsd K W t fo s i k < l
      · rw [if_pos (by rw [i3_lt (by omega) (by omega) (by omega) (by omega)]; exact q2)]
        exact ih w (k + 1) _ (by omega) (by omega) g1.1 g1.2 (fun k' hk' => by
          by_cases e : k' = k
          · rw [e]; exact Int.le_refl _
          · have := hl k' (by omega); omega) (Or.inr ⟨k, by omega, rfl⟩)
      · rw [if_neg (by rw [i3_lt (by omega) (by omega) (by omega) (by omega)]; exact q2)]
        refine ih w (k + 1) l (by omega) (by omega) l1 l2 (fun k' hk' => by
          by_cases e : k' = k
          · rw [e]; omega
          · exact hl k' (by omega)) (Or.inr ?_)
        rcases hex with ⟨-, e⟩ | ⟨k', h1, h2⟩
        · exact ⟨k, by omega, by omega⟩
        · exact ⟨k', by omega, h2⟩
theorem F10_safeOf_ok {z K : Nat} (hz : 200 ≤ z) {W : Nat → Int} {t : Int} {fo : Nat → Nat} {told many eights gains : Nat → Int32} (hM : SM K W t fo told many eights gains) {s i : Nat} (hs : s < 2) (hi : i < ns K (fo s)) : ∃ v, F10_safeOf z (i3 s) (i3 i) many gains = some (i3 v) ∧ isMin (gsd K W t fo s i) (ns K (fo (1 - s))) v := by
  have hV := hM.1
  have hs' : 1 - s < 2 := by omega
  have n1 := ns_bd hV (hM.2.1 (1 - s) hs')
  have hm := hM.2.2.2.2.2.2.1 (1 - s) hs'
  have loop : ∀ (rem w k : Nat) (l : Int), k + rem = ns K (fo (1 - s)) → rem < w → -8 ≤ l → l ≤ 1000000 → (∀ k', k' < k → l ≤ gsd K W t fo s i k') → ((k = 0 ∧ l = 1000000) ∨ ∃ k', k' < k ∧ l = gsd K W t fo s i k') → ∃ v, F10_safeOf_b6 z w (i3 s) (i3 i) (i3 l) (i3 k) many gains = some (i3 v) ∧ isMin (gsd K W t fo s i) (ns K (fo (1 - s))) v := by
    intro rem
    induction rem with
    | zero =>
      intro w k l hk hw l1 l2 hl hex
      obtain ⟨w, rfl⟩ : ∃ w', w = w' + 1 := ⟨w - 1, by omega⟩
      refine ⟨l, ?_, ⟨fun k' hk' => hl k' (by omega), ?_⟩⟩
      · unfold F10_safeOf_b6
        rw [one_sub hs, xg_in _ (by omega) (by omega) (by omega), i3_xnN (by omega), hm, if_pos (by rw [i3_le (by omega) (by omega) (by omega) (by omega)]; omega)]
      · rcases hex with q | ⟨k', h1, h2⟩
        · omega
        · exact ⟨k', by omega, h2⟩
    | succ rem ih =>
      intro w k l hk hw l1 l2 hl hex
      obtain ⟨w, rfl⟩ : ∃ w', w = w' + 1 := ⟨w - 1, by omega⟩
      have hcc : ((k : Nat) : Int) + 1 = ((k + 1 : Nat) : Int) := by omega
      have g1 := gsd_bd (fo := fo) hV s i k
      unfold F10_safeOf_b6 F10_safeOf_b43
      rw [one_sub hs, xg_in _ (by omega) (by omega) (by omega), i3_xnN (by omega), hm, if_neg (by rw [i3_le (by omega) (by omega) (by omega) (by omega)]; omega), F10_gainFor_ok hM hs hi (show k < ns K (fo (1 - s)) by omega)]
      simp only [Option.bind_some]
      rw [i3_l1, i3_add, hcc]
      by_cases q2 : l ≤ gsd K W t fo s i k
      · rw [if_pos (by rw [i3_le (by omega) (by omega) (by omega) (by omega)]; exact q2)]
        refine ih w (k + 1) l (by omega) (by omega) l1 l2 (fun k' hk' => by
          by_cases e : k' = k
          · rw [e]; omega
          · exact hl k' (by omega)) (Or.inr ?_)
        rcases hex with ⟨-, e⟩ | ⟨k', h1, h2⟩
        · omega
        · exact ⟨k', by omega, h2⟩
      · rw [if_neg (by rw [i3_le (by omega) (by omega) (by omega) (by omega)]; exact q2)]
        exact ih w (k + 1) _ (by omega) (by omega) g1.1 (by omega) (fun k' hk' => by
          by_cases e : k' = k
          · rw [e]; exact Int.le_refl _
          · have := hl k' (by omega); omega) (Or.inr ⟨k, by omega, rfl⟩)
  exact loop (ns K (fo (1 - s))) z 0 1000000 (by omega) (by omega) (by omega) (by omega) (fun k' hk' => by omega) (Or.inl ⟨rfl, rfl⟩)
