/-! ===== worse and beaten ones ===== -/
noncomputable def pd (p : Prop) : Bool := @decide p (Classical.propDecidable p)
theorem pd_t {p : Prop} : pd p = true ↔ p := by unfold pd; simp
theorem pd_f {p : Prop} : pd p = false ↔ ¬ p := by unfold pd; simp
/-- the first that has a thing; -2: none -/
def fw (p : Nat → Bool) : Nat → Nat → Int
  | _, 0 => -2
  | k, r + 1 => if p k then k else fw p (k + 1) r
/-- worse (beaten) against those that count -/
def wrs (gi gj : Nat → Int) (N : Nat) (L : Nat → Bool) (be : Bool) (k : Nat) (fl : Int) : Prop := (∀ k', k ≤ k' → k' < N → L k' = true → (be = true → gi k' < gj k') ∧ gi k' ≤ gj k') ∧ (fl = 1 ∨ ∃ k', k ≤ k' ∧ k' < N ∧ L k' = true ∧ gi k' < gj k')
theorem F10_isWorse_b11_ok {z K : Nat} {W : Nat → Int} {t : Int} {fo : Nat → Nat} {told many eights gains : Nat → Int32} (hM : SM K W t fo told many eights gains) {s i j : Nat} (hs : s < 2) (hi : i < ns K (fo s)) (hj : j < ns K (fo s)) {be al : Bool} {L : Nat → Bool} {isLeft : Nat → Int32} (hL : ∀ k, k < ns K (fo (1 - s)) → (al = true ∧ L k = true) ∨ (al = false ∧ isLeft (128 * (1 - s) + k) = i3 (if L k then 1 else 0))) : ∀ (rem w k : Nat) (fl : Int), k + rem = ns K (fo (1 - s)) → rem < w → (fl = 0 ∨ fl = 1) → (wrs (gsd K W t fo s i) (gsd K W t fo s j) (ns K (fo (1 - s))) L be k fl → F10_isWorse_b11 z w (i3 s) (i3 i) (i3 j) (i3 (if be then 1 else 0)) (i3 (if al then 1 else 0)) (i3 fl) (i3 ((1 - s : Nat) : Int)) (i3 k) many gains isLeft = some 1) ∧ (¬ wrs (gsd K W t fo s i) (gsd K W t fo s j) (ns K (fo (1 - s))) L be k fl → F10_isWorse_b11 z w (i3 s) (i3 i) (i3 j) (i3 (if be then 1 else 0)) (i3 (if al then 1 else 0)) (i3 fl) (i3 ((1 - s : Nat) : Int)) (i3 k) many gains isLeft = some 0) := by
  have hV := hM.1
  have hs' : 1 - s < 2 := by omega
  have n1 := ns_bd hV (hM.2.1 (1 - s) hs')
  have hm := hM.2.2.2.2.2.2.1 (1 - s) hs'
  intro rem
  induction rem with
  | zero =>
    intro w k fl hk hw hfl
    obtain ⟨w, rfl⟩ : ∃ w', w = w' + 1 := ⟨w - 1, by omega⟩
    unfold F10_isWorse_b11
    rw [xg_in _ (by omega) (by omega) (by omega), i3_xnN (by omega), hm, if_pos (by rw [i3_le (by omega) (by omega) (by omega) (by omega)]; omega), xg_bo _ hfl]
    refine ⟨fun q => ?_, fun q => ?_⟩
    · rcases q.2 with e | ⟨k', h1, h2, -⟩
      · rw [e]; rfl
      · omega
    · rcases hfl with e | e
      · rw [e]; rfl
      · exact absurd ⟨fun k' h1 h2 => by omega, Or.inl e⟩ q
  | succ rem ih =>
    intro w k fl hk hw hfl
    obtain ⟨w, rfl⟩ : ∃ w', w = w' + 1 := ⟨w - 1, by omega⟩
    have hcc : ((k : Nat) : Int) + 1 = ((k + 1 : Nat) : Int) := by omega
    have g1 := gsd_bd (fo := fo) hV s i k
    have g2 := gsd_bd (fo := fo) hV s j k
    unfold F10_isWorse_b11
    rw [xg_in _ (by omega) (by omega) (by omega), i3_xnN (by omega), hm, if_neg (by rw [i3_le (by omega) (by omega) (by omega) (by omega)]; omega)]
    -- the one that counts
    have key : L k = true → (wrs (gsd K W t fo s i) (gsd K W t fo s j) (ns K (fo (1 - s))) L be k fl → F10_isWorse_b45 z (i3 s) (i3 i) (i3 j) (i3 (if be then 1 else 0)) (i3 (if al then 1 else 0)) (i3 fl) (i3 ((1 - s : Nat) : Int)) (i3 k) many gains isLeft (fun q0 q1 q2 q3 q4 q5 q6 q7 q8 q9 q10 => F10_isWorse_b11 z w q0 q1 q2 q3 q4 q5 q6 q7 q8 q9 q10) = some 1) ∧ (¬ wrs (gsd K W t fo s i) (gsd K W t fo s j) (ns K (fo (1 - s))) L be k fl → F10_isWorse_b45 z (i3 s) (i3 i) (i3 j) (i3 (if be then 1 else 0)) (i3 (if al then 1 else 0)) (i3 fl) (i3 ((1 - s : Nat) : Int)) (i3 k) many gains isLeft (fun q0 q1 q2 q3 q4 q5 q6 q7 q8 q9 q10 => F10_isWorse_b11 z w q0 q1 q2 q3 q4 q5 q6 q7 q8 q9 q10) = some 0) := by
      intro hLk
      unfold F10_isWorse_b45
      rw [F10_gainFor_ok hM hs hi (show k < ns K (fo (1 - s)) by omega), F10_gainFor_ok hM hs hj (show k < ns K (fo (1 - s)) by omega)]
      simp only [Option.bind_some]
      rw [i3_sub]
      -- goes on with a flag
      have go : ∀ fl' : Int, (fl' = 0 ∨ fl' = 1) → ((be = true → gsd K W t fo s i k < gsd K W t fo s j k) ∧ gsd K W t fo s i k ≤ gsd K W t fo s j k) → (fl' = 1 ↔ (fl = 1 ∨ gsd K W t fo s i k < gsd K W t fo s j k)) → (wrs (gsd K W t fo s i) (gsd K W t fo s j) (ns K (fo (1 - s))) L be k fl → F10_isWorse_b96 z (i3 s) (i3 i) (i3 j) (i3 (if be then 1 else 0)) (i3 (if al then 1 else 0)) (i3 ((1 - s : Nat) : Int)) (i3 k) (i3 fl') many gains isLeft (fun q0 q1 q2 q3 q4 q5 q6 q7 q8 q9 q10 => F10_isWorse_b11 z w q0 q1 q2 q3 q4 q5 q6 q7 q8 q9 q10) = some 1) ∧ (¬ wrs (gsd K W t fo s i) (gsd K W t fo s j) (ns K (fo (1 - s))) L be k fl → F10_isWorse_b96 z (i3 s) (i3 i) (i3 j) (i3 (if be then 1 else 0)) (i3 (if al then 1 else 0)) (i3 ((1 - s : Nat) : Int)) (i3 k) (i3 fl') many gains isLeft (fun q0 q1 q2 q3 q4 q5 q6 q7 q8 q9 q10 => F10_isWorse_b11 z w q0 q1 q2 q3 q4 q5 q6 q7 q8 q9 q10) = some 0) := by
        intro fl' hfl' hok hfe
        unfold F10_isWorse_b96 F10_isWorse_b98
        rw [i3_l1, i3_add, hcc]
        have hih := ih w (k + 1) fl' (by omega) (by omega) hfl'
        have hiff : wrs (gsd K W t fo s i) (gsd K W t fo s j) (ns K (fo (1 - s))) L be k fl ↔ wrs (gsd K W t fo s i) (gsd K W t fo s j) (ns K (fo (1 - s))) L be (k + 1) fl' := by
          constructor
          · rintro ⟨h1, h2⟩
            refine ⟨fun k' h3 h4 h5 => h1 k' (by omega) h4 h5, ?_⟩
            rcases h2 with e | ⟨k', h3, h4, h5, h6⟩
            · exact Or.inl (hfe.mpr (Or.inl e))
            · by_cases e : k' = k
              · rw [e] at h6; exact Or.inl (hfe.mpr (Or.inr h6))
              · exact Or.inr ⟨k', by omega, h4, h5, h6⟩
          · rintro ⟨h1, h2⟩
            refine ⟨fun k' h3 h4 h5 => ?_, ?_⟩
            · by_cases e : k' = k
              · rw [e]; exact hok
              · exact h1 k' (by omega) h4 h5
            · rcases h2 with e | ⟨k', h3, h4, h5, h6⟩
              · rcases hfe.mp e with q | q
                · exact Or.inl q
                · exact Or.inr ⟨k, Nat.le_refl _, by omega, hLk, q⟩
              · exact Or.inr ⟨k', by omega, h4, h5, h6⟩
        rw [hiff]
        exact hih
      have b81 : ((be = true → gsd K W t fo s i k < gsd K W t fo s j k) ∧ gsd K W t fo s i k ≤ gsd K W t fo s j k) → (wrs (gsd K W t fo s i) (gsd K W t fo s j) (ns K (fo (1 - s))) L be k fl → F10_isWorse_b81 z (i3 s) (i3 i) (i3 j) (i3 (if be then 1 else 0)) (i3 (if al then 1 else 0)) (i3 fl) (i3 ((1 - s : Nat) : Int)) (i3 k) (i3 (gsd K W t fo s i k - gsd K W t fo s j k)) many gains isLeft (fun q0 q1 q2 q3 q4 q5 q6 q7 q8 q9 q10 => F10_isWorse_b11 z w q0 q1 q2 q3 q4 q5 q6 q7 q8 q9 q10) = some 1) ∧ (¬ wrs (gsd K W t fo s i) (gsd K W t fo s j) (ns K (fo (1 - s))) L be k fl → F10_isWorse_b81 z (i3 s) (i3 i) (i3 j) (i3 (if be then 1 else 0)) (i3 (if al then 1 else 0)) (i3 fl) (i3 ((1 - s : Nat) : Int)) (i3 k) (i3 (gsd K W t fo s i k - gsd K W t fo s j k)) many gains isLeft (fun q0 q1 q2 q3 q4 q5 q6 q7 q8 q9 q10 => F10_isWorse_b11 z w q0 q1 q2 q3 q4 q5 q6 q7 q8 q9 q10) = some 0) := by
        intro hok
        unfold F10_isWorse_b81
        rcases hfl with e | e
        · subst e
          rw [if_pos (show i3 0 = 0 from rfl)]
          by_cases q : 0 ≤ gsd K W t fo s i k - gsd K W t fo s j k
          · rw [if_pos (by rw [i3_l0, i3_le (by omega) (by omega) (by omega) (by omega)]; exact q)]
            exact go 0 (Or.inl rfl) hok (by constructor <;> intro q2 <;> omega)
          · rw [if_neg (by rw [i3_l0, i3_le (by omega) (by omega) (by omega) (by omega)]; exact q)]
            exact go 1 (Or.inr rfl) hok ⟨fun _ => Or.inr (by omega), fun _ => rfl⟩
        · subst e
          rw [if_neg (by decide)]
          exact go 1 (Or.inr rfl) hok ⟨fun _ => Or.inl rfl, fun _ => rfl⟩
      have hnot : ¬ ((be = true → gsd K W t fo s i k < gsd K W t fo s j k) ∧ gsd K W t fo s i k ≤ gsd K W t fo s j k) → ¬ wrs (gsd K W t fo s i) (gsd K W t fo s j) (ns K (fo (1 - s))) L be k fl := fun q q2 => q (q2.1 k (Nat.le_refl _) (by omega) hLk)
      by_cases q1 : 0 < gsd K W t fo s i k - gsd K W t fo s j k
      · rw [if_pos (by rw [i3_l0, i3_lt (by omega) (by omega) (by omega) (by omega)]; exact q1)]
        have hn := hnot (fun q => by have := q.2; omega)
        exact ⟨fun q => absurd q hn, fun _ => rfl⟩
      · rw [if_neg (by rw [i3_l0, i3_lt (by omega) (by omega) (by omega) (by omega)]; exact q1)]
        cases be with
        | false =>
          rw [if_pos (show i3 (if false = true then 1 else 0) = 0 from rfl)]
          exact b81 ⟨fun q => absurd q (by decide), by omega⟩
        | true =>
          rw [if_neg (show ¬ i3 (if true = true then 1 else 0) = 0 by decide)]
          by_cases q2 : gsd K W t fo s i k - gsd K W t fo s j k = 0
          · rw [if_pos (by rw [q2]; rfl)]
            have hn := hnot (fun q => by have := q.1 rfl; omega)
            exact ⟨fun q => absurd q hn, fun _ => rfl⟩
          · rw [if_neg (by rw [i3_l0, i3_eq (by omega) (by omega) (by omega) (by omega)]; exact q2)]
            exact b81 ⟨fun _ => by omega, by omega⟩
    rcases hL k (by omega) with ⟨ea, eL⟩ | ⟨ea, eL⟩
    · rw [ea, if_neg (show ¬ i3 (if true = true then 1 else 0) = 0 by decide)]
      rw [ea] at key
      exact key eL
    · have e128 : (128 : Int32) * i3 ((1 - s : Nat) : Int) + i3 (k : Int) = i3 ((128 * (1 - s) + k : Nat) : Int) := by
        rw [i3_l128, i3_mul, i3_add]; congr 1 <;> omega
      rw [ea, if_pos (show i3 (if false = true then 1 else 0) = 0 from rfl), e128, xg_in _ (by omega) (by omega) (by omega), i3_xnN (by omega), eL]
      rw [ea] at key
      cases hLk : L k with
      | true =>
        rw [if_neg (show ¬ i3 (if true = true then 1 else 0) = 0 by decide)]
        exact key hLk
      | false =>
        rw [if_pos (show i3 (if false = true then 1 else 0) = 0 from rfl)]
        unfold F10_isWorse_b98
        have hih := ih w (k + 1) fl (by omega) (by omega) hfl
        rw [i3_l1, i3_add, hcc]
        have hiff : wrs (gsd K W t fo s i) (gsd K W t fo s j) (ns K (fo (1 - s))) L be k fl ↔ wrs (gsd K W t fo s i) (gsd K W t fo s j) (ns K (fo (1 - s))) L be (k + 1) fl := by
          constructor
          · rintro ⟨h1, h2⟩
            refine ⟨fun k' h3 h4 h5 => h1 k' (by omega) h4 h5, ?_⟩
            rcases h2 with e | ⟨k', h3, h4, h5, h6⟩
            · exact Or.inl e
            · by_cases e : k' = k
              · rw [e, hLk] at h5; exact absurd h5 (by decide)
              · exact Or.inr ⟨k', by omega, h4, h5, h6⟩
          · rintro ⟨h1, h2⟩
            refine ⟨fun k' h3 h4 h5 => ?_, ?_⟩
            · by_cases e : k' = k
              · rw [e, hLk] at h5; exact absurd h5 (by decide)
              · exact h1 k' (by omega) h4 h5
            · rcases h2 with e | ⟨k', h3, h4, h5, h6⟩
              · exact Or.inl e
              · exact Or.inr ⟨k', by omega, h4, h5, h6⟩
        rw [ea] at hih
        rw [hiff]
        exact hih
theorem one_sub {s : Nat} (hs : s < 2) : (1 : Int32) - i3 (s : Int) = i3 ((1 - s : Nat) : Int) := by
  rw [i3_l1, i3_sub]; congr 1; omega
theorem F10_isWorse_ok {z K : Nat} (hz : 200 ≤ z) {W : Nat → Int} {t : Int} {fo : Nat → Nat} {told many eights gains : Nat → Int32} (hM : SM K W t fo told many eights gains) {s i j : Nat} (hs : s < 2) (hi : i < ns K (fo s)) (hj : j < ns K (fo s)) {be al : Bool} {L : Nat → Bool} {isLeft : Nat → Int32} (hL : ∀ k, k < ns K (fo (1 - s)) → (al = true ∧ L k = true) ∨ (al = false ∧ isLeft (128 * (1 - s) + k) = i3 (if L k then 1 else 0))) : (wrs (gsd K W t fo s i) (gsd K W t fo s j) (ns K (fo (1 - s))) L be 0 0 → F10_isWorse z (i3 s) (i3 i) (i3 j) (i3 (if be then 1 else 0)) (i3 (if al then 1 else 0)) many gains isLeft = some 1) ∧ (¬ wrs (gsd K W t fo s i) (gsd K W t fo s j) (ns K (fo (1 - s))) L be 0 0 → F10_isWorse z (i3 s) (i3 i) (i3 j) (i3 (if be then 1 else 0)) (i3 (if al then 1 else 0)) many gains isLeft = some 0) := by
  have n1 := ns_bd hM.1 (hM.2.1 (1 - s) (by omega))
  unfold F10_isWorse
  rw [one_sub hs]
  exact F10_isWorse_b11_ok hM hs hi hj hL (ns K (fo (1 - s))) z 0 0 (by omega) (by omega) (Or.inl rfl)
/-- the class's two -/
theorem F4_isBeaten_b3_ok {z K : Nat} (hz : 10 ≤ z) {W : Nat → Int} {t : Int} {fo : Nat → Nat} {fields ties : Int32} {worth forces many : Nat → Int32} {codes : Nat → Nat → Int32} (hX : SX K W t fo fields ties worth forces many codes) {s i j : Nat} (hs : s < 2) (hi : i < ns K (fo s)) (hj : j < ns K (fo s)) : ∀ (rem w k : Nat), k + rem = ns K (fo (1 - s)) → rem < w → ((∀ k', k ≤ k' → k' < ns K (fo (1 - s)) → gsd K W t fo s i k' < gsd K W t fo s j k') → F4_isBeaten_b3 z w (i3 s) (i3 i) (i3 j) (i3 k) fields ties worth many codes = some 1) ∧ (¬ (∀ k', k ≤ k' → k' < ns K (fo (1 - s)) → gsd K W t fo s i k' < gsd K W t fo s j k') → F4_isBeaten_b3 z w (i3 s) (i3 i) (i3 j) (i3 k) fields ties worth many codes = some 0) := by
  have hV := hX.1
  have hs' : 1 - s < 2 := by omega
  have n1 := ns_bd hV (hX.2.1 (1 - s) hs')
  have hm := hX.2.2.2.2.2.2.1 (1 - s) hs'
  intro rem
  induction rem with
  | zero =>
    intro w k hk hw
    obtain ⟨w, rfl⟩ : ∃ w', w = w' + 1 := ⟨w - 1, by omega⟩
    unfold F4_isBeaten_b3
    rw [one_sub hs, xg_in _ (by omega) (by omega) (by omega), i3_xnN (by omega), hm, if_pos (by rw [i3_le (by omega) (by omega) (by omega) (by omega)]; omega)]
    exact ⟨fun _ => rfl, fun q => absurd (fun k' h1 h2 => by omega) q⟩
  | succ rem ih =>
    intro w k hk hw
    obtain ⟨w, rfl⟩ : ∃ w', w = w' + 1 := ⟨w - 1, by omega⟩
    have g1 := gsd_bd (fo := fo) hV s i k
    have g2 := gsd_bd (fo := fo) hV s j k
    unfold F4_isBeaten_b3
    rw [one_sub hs, xg_in _ (by omega) (by omega) (by omega), i3_xnN (by omega), hm, if_neg (by rw [i3_le (by omega) (by omega) (by omega) (by omega)]; omega), F4_gainFor_ok hX hz hs hi (show k < ns K (fo (1 - s)) by omega), F4_gainFor_ok hX hz hs hj (show k < ns K (fo (1 - s)) by omega)]
    simp only [Option.bind_some]
    by_cases q : gsd K W t fo s i k < gsd K W t fo s j k
    · rw [if_pos (by rw [i3_lt (by omega) (by omega) (by omega) (by omega)]; exact q), i3_l1, i3_add]
      have hih := ih w (k + 1) (by omega) (by omega)
      refine ⟨fun q2 => hih.1 (fun k' h1 h2 => q2 k' (by omega) h2), fun q2 => hih.2 (fun q3 => q2 (fun k' h1 h2 => ?_))⟩
      by_cases e : k' = k
      · rw [e]; exact q
      · exact q3 k' (by omega) h2
    · rw [if_neg (by rw [i3_lt (by omega) (by omega) (by omega) (by omega)]; exact q)]
      exact ⟨fun q2 => absurd (q2 k (Nat.le_refl _) (by omega)) q, fun _ => rfl⟩
theorem F4_isWorse_b6_ok {z K : Nat} (hz : 10 ≤ z) {W : Nat → Int} {t : Int} {fo : Nat → Nat} {fields ties : Int32} {worth forces many : Nat → Int32} {codes : Nat → Nat → Int32} (hX : SX K W t fo fields ties worth forces many codes) {s i j : Nat} (hs : s < 2) (hi : i < ns K (fo s)) (hj : j < ns K (fo s)) : ∀ (rem w k : Nat) (fl : Int), k + rem = ns K (fo (1 - s)) → rem < w → (fl = 0 ∨ fl = 1) → (wrs (gsd K W t fo s i) (gsd K W t fo s j) (ns K (fo (1 - s))) (fun _ => true) false k fl → F4_isWorse_b6 z w (i3 s) (i3 i) (i3 j) (i3 fl) (i3 k) fields ties worth many codes = some 1) ∧ (¬ wrs (gsd K W t fo s i) (gsd K W t fo s j) (ns K (fo (1 - s))) (fun _ => true) false k fl → F4_isWorse_b6 z w (i3 s) (i3 i) (i3 j) (i3 fl) (i3 k) fields ties worth many codes = some 0) := by
  have hV := hX.1
  have hs' : 1 - s < 2 := by omega
  have n1 := ns_bd hV (hX.2.1 (1 - s) hs')
  have hm := hX.2.2.2.2.2.2.1 (1 - s) hs'
  intro rem
  induction rem with
  | zero =>
    intro w k fl hk hw hfl
    obtain ⟨w, rfl⟩ : ∃ w', w = w' + 1 := ⟨w - 1, by omega⟩
    unfold F4_isWorse_b6
    rw [one_sub hs, xg_in _ (by omega) (by omega) (by omega), i3_xnN (by omega), hm, if_pos (by rw [i3_le (by omega) (by omega) (by omega) (by omega)]; omega), xg_bo _ hfl]
    refine ⟨fun q => ?_, fun q => ?_⟩
    · rcases q.2 with e | ⟨k', h1, h2, -⟩
      · rw [e]; rfl
      · omega
    · rcases hfl with e | e
      · rw [e]; rfl
      · exact absurd ⟨fun k' h1 h2 => by omega, Or.inl e⟩ q
  | succ rem ih =>
    intro w k fl hk hw hfl
    obtain ⟨w, rfl⟩ : ∃ w', w = w' + 1 := ⟨w - 1, by omega⟩
    have hcc : ((k : Nat) : Int) + 1 = ((k + 1 : Nat) : Int) := by omega
    have g1 := gsd_bd (fo := fo) hV s i k
    have g2 := gsd_bd (fo := fo) hV s j k
    unfold F4_isWorse_b6
    rw [one_sub hs, xg_in _ (by omega) (by omega) (by omega), i3_xnN (by omega), hm, if_neg (by rw [i3_le (by omega) (by omega) (by omega) (by omega)]; omega), F4_gainFor_ok hX hz hs hi (show k < ns K (fo (1 - s)) by omega), F4_gainFor_ok hX hz hs hj (show k < ns K (fo (1 - s)) by omega)]
    simp only [Option.bind_some]
    have go : ∀ fl' : Int, (fl' = 0 ∨ fl' = 1) → gsd K W t fo s i k ≤ gsd K W t fo s j k → (fl' = 1 ↔ (fl = 1 ∨ gsd K W t fo s i k < gsd K W t fo s j k)) → (wrs (gsd K W t fo s i) (gsd K W t fo s j) (ns K (fo (1 - s))) (fun _ => true) false k fl → F4_isWorse_b65 z (i3 s) (i3 i) (i3 j) (i3 k) (i3 fl') fields ties worth many codes (fun q0 q1 q2 q3 q4 q5 q6 q7 q8 q9 => F4_isWorse_b6 z w q0 q1 q2 q3 q4 q5 q6 q7 q8 q9) = some 1) ∧ (¬ wrs (gsd K W t fo s i) (gsd K W t fo s j) (ns K (fo (1 - s))) (fun _ => true) false k fl → F4_isWorse_b65 z (i3 s) (i3 i) (i3 j) (i3 k) (i3 fl') fields ties worth many codes (fun q0 q1 q2 q3 q4 q5 q6 q7 q8 q9 => F4_isWorse_b6 z w q0 q1 q2 q3 q4 q5 q6 q7 q8 q9) = some 0) := by
      intro fl' hfl' hok hfe
      unfold F4_isWorse_b65
      rw [i3_l1, i3_add, hcc]
      have hih := ih w (k + 1) fl' (by omega) (by omega) hfl'
      have hiff : wrs (gsd K W t fo s i) (gsd K W t fo s j) (ns K (fo (1 - s))) (fun _ => true) false k fl ↔ wrs (gsd K W t fo s i) (gsd K W t fo s j) (ns K (fo (1 - s))) (fun _ => true) false (k + 1) fl' := by
        constructor
        · rintro ⟨h1, h2⟩
          refine ⟨fun k' h3 h4 h5 => h1 k' (by omega) h4 h5, ?_⟩
          rcases h2 with e | ⟨k', h3, h4, h5, h6⟩
          · exact Or.inl (hfe.mpr (Or.inl e))
          · by_cases e : k' = k
            · rw [e] at h6; exact Or.inl (hfe.mpr (Or.inr h6))
            · exact Or.inr ⟨k', by omega, h4, h5, h6⟩
        · rintro ⟨h1, h2⟩
          refine ⟨fun k' h3 h4 h5 => ?_, ?_⟩
          · by_cases e : k' = k
            · rw [e]; exact ⟨fun q => absurd q (by decide), hok⟩
            · exact h1 k' (by omega) h4 h5
          · rcases h2 with e | ⟨k', h3, h4, h5, h6⟩
            · rcases hfe.mp e with q | q
              · exact Or.inl q
              · exact Or.inr ⟨k, Nat.le_refl _, by omega, rfl, q⟩
            · exact Or.inr ⟨k', by omega, h4, h5, h6⟩
      rw [hiff]
      exact hih
    by_cases q1 : gsd K W t fo s i k ≤ gsd K W t fo s j k
    · rw [if_pos (by rw [i3_le (by omega) (by omega) (by omega) (by omega)]; exact q1)]
      rcases hfl with e | e
      · subst e
        rw [if_pos (show i3 0 = 0 from rfl)]
        by_cases q : gsd K W t fo s j k ≤ gsd K W t fo s i k
        · rw [if_pos (by rw [i3_le (by omega) (by omega) (by omega) (by omega)]; exact q)]
          exact go 0 (Or.inl rfl) q1 (by constructor <;> intro q2 <;> omega)
        · rw [if_neg (by rw [i3_le (by omega) (by omega) (by omega) (by omega)]; exact q)]
          exact go 1 (Or.inr rfl) q1 ⟨fun _ => Or.inr (by omega), fun _ => rfl⟩
      · subst e
        rw [if_neg (show ¬ i3 1 = 0 by decide)]
        exact go 1 (Or.inr rfl) q1 ⟨fun _ => Or.inl rfl, fun _ => rfl⟩
    · rw [if_neg (by rw [i3_le (by omega) (by omega) (by omega) (by omega)]; exact q1)]
      refine ⟨fun q => ?_, fun _ => rfl⟩
      exact absurd (q.1 k (Nat.le_refl _) (by omega) rfl).2 q1
