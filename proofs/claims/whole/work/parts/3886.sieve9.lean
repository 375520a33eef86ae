/-! ===== the class's sieve ===== -/
/-- those kept: m of them, the c-th is e c -/
def Kp (n m : Nat) (e : Nat → Nat) (kept : Nat → Int32) (many : Int32) : Prop := many = i3 (m : Nat) ∧ m ≤ n ∧ ∀ c, c < m → kept c = i3 (e c : Nat) ∧ e c < n
theorem aboveRow_ok {z K : Nat} (hz : 200 ≤ z) {W : Nat → Int} {t : Int} {fo : Nat → Nat} {fields ties : Int32} {worth forces smany : Nat → Int32} {codes : Nat → Nat → Int32} (hX : SX K W t fo fields ties worth forces smany codes) {s j : Nat} (hs : s < 2) (hj : j < ns K (fo s)) {kept : Nat → Nat → Int32} {many row : Nat → Int32} {m' : Nat} {e' : Nat → Nat} (hk : Kp (ns K (fo (1 - s))) m' e' (kept (1 - s)) (many (1 - s))) {r : Nat → Int} (hr : ∀ c, c < m' → row c = i3 (r c) ∧ -8 ≤ r c ∧ r c ≤ 8) : ((∀ c, c < m' → r c < gsd K W t fo s j (e' c)) → F5_isAboveRow z (i3 s) (i3 j) kept many row fields ties worth codes = some 1) ∧ ((¬ ∀ c, c < m' → r c < gsd K W t fo s j (e' c)) → F5_isAboveRow z (i3 s) (i3 j) kept many row fields ties worth codes = some 0) := by
  have hs' : 1 - s < 2 := by omega
  have n1 := ns_bd hX.1 (hX.2.1 (1 - s) hs')
  obtain ⟨k1, k2, k3⟩ := hk
  have loop : ∀ (rem w c : Nat), c + rem = m' → rem < w → ((∀ c', c ≤ c' → c' < m' → r c' < gsd K W t fo s j (e' c')) → F5_isAboveRow_b8 z w (i3 s) (i3 j) (i3 ((1 - s : Nat) : Int)) (i3 c) kept many row fields ties worth codes = some 1) ∧ ((¬ ∀ c', c ≤ c' → c' < m' → r c' < gsd K W t fo s j (e' c')) → F5_isAboveRow_b8 z w (i3 s) (i3 j) (i3 ((1 - s : Nat) : Int)) (i3 c) kept many row fields ties worth codes = some 0) := by
    intro rem
    induction rem with
    | zero =>
      intro w c hc hw
      obtain ⟨w, rfl⟩ : ∃ w', w = w' + 1 := ⟨w - 1, by omega⟩
      unfold F5_isAboveRow_b8
      simp (disch := omega) only [xg_in, i3_xnN]
      rw [k1, if_pos (by rw [i3_le (by omega) (by omega) (by omega) (by omega)]; omega)]
      exact ⟨fun _ => rfl, fun h => absurd (fun c' h1 h2 => by omega) h⟩
    | succ rem ih =>
      intro w c hc hw
      obtain ⟨w, rfl⟩ : ∃ w', w = w' + 1 := ⟨w - 1, by omega⟩
      obtain ⟨k4, k5⟩ := k3 c (by omega)
      obtain ⟨r1, r2, r3⟩ := hr c (by omega)
      have gb := gsd_bd hX.1 (fo := fo) s j (e' c)
      unfold F5_isAboveRow_b8
      simp (disch := omega) only [xg_in, i3_xnN]
      rw [k1, if_neg (show ¬ i3 (m' : Nat) ≤ i3 (c : Int) by rw [i3_le (by omega) (by omega) (by omega) (by omega)]; omega), k4, F4_gainFor_ok hX (by omega) hs hj k5]
      simp only [Option.bind_some]
      rw [r1, show i3 (c : Int) + 1 = i3 ((c + 1 : Nat) : Int) from by rw [i3_l1, i3_add]; rfl]
      obtain ⟨i1, i2⟩ := ih w (c + 1) (by omega) (by omega)
      by_cases q : r c < gsd K W t fo s j (e' c)
      · rw [if_pos (show i3 (r c) < i3 (gsd K W t fo s j (e' c)) by rw [i3_lt (by omega) (by omega) (by omega) (by omega)]; exact q)]
        refine ⟨fun h => i1 (fun c' h1 h2 => h c' (by omega) h2), fun h => i2 (fun g => h (fun c' h1 h2 => ?_))⟩
        by_cases e : c' = c
        · rw [e]; exact q
        · exact g c' (by omega) h2
      · rw [if_neg (show ¬ i3 (r c) < i3 (gsd K W t fo s j (e' c)) by rw [i3_lt (by omega) (by omega) (by omega) (by omega)]; exact q)]
        exact ⟨fun h => absurd (h c (Nat.le_refl _) (by omega)) q, fun _ => rfl⟩
  have e1 : (1 : Int32) - i3 (s : Int) = i3 ((1 - s : Nat) : Int) := by rw [i3_l1, i3_sub]; congr 1; omega
  unfold F5_isAboveRow
  rw [e1]
  obtain ⟨l1, l2⟩ := loop m' z 0 (by omega) (by omega)
  exact ⟨fun h => l1 (fun c _ hc => h c hc), fun h => l2 (fun g => h (fun c hc => g c (Nat.zero_le _) hc))⟩
theorem beaten_ok {z K : Nat} (hz : 200 ≤ z) {W : Nat → Int} {t : Int} {fo : Nat → Nat} {fields ties : Int32} {worth forces smany : Nat → Int32} {codes : Nat → Nat → Int32} (hX : SX K W t fo fields ties worth forces smany codes) {s i : Nat} (hs : s < 2) (hi : i < ns K (fo s)) {kept : Nat → Nat → Int32} {many : Nat → Int32} (row : Nat → Int32) {m m' : Nat} {e e' : Nat → Nat} (hk0 : Kp (ns K (fo s)) m e (kept s) (many s)) (hk : Kp (ns K (fo (1 - s))) m' e' (kept (1 - s)) (many (1 - s))) : ∃ row', ((∃ d, d < m ∧ ∀ c, c < m' → gsd K W t fo s i (e' c) < gsd K W t fo s (e d) (e' c)) → F5_isBeatenByKept z (i3 s) (i3 i) kept many row fields ties worth codes = some (1, row')) ∧ ((¬ ∃ d, d < m ∧ ∀ c, c < m' → gsd K W t fo s i (e' c) < gsd K W t fo s (e d) (e' c)) → F5_isBeatenByKept z (i3 s) (i3 i) kept many row fields ties worth codes = some (0, row')) := by
  have hs' : 1 - s < 2 := by omega
  have n0 := ns_bd hX.1 (hX.2.1 s hs)
  have n1 := ns_bd hX.1 (hX.2.1 (1 - s) hs')
  obtain ⟨k1, k2, k3⟩ := id hk
  obtain ⟨j1, j2, j3⟩ := id hk0
  have rows : ∀ (rem w c : Nat) (row : Nat → Int32), c + rem = m' → rem < w → (∀ c', c' < c → row c' = i3 (gsd K W t fo s i (e' c'))) → ∃ row', F5_isBeatenByKept_b8 z w (i3 s) (i3 i) (i3 ((1 - s : Nat) : Int)) (i3 c) kept many row fields ties worth codes = F5_isBeatenByKept_b49 z (i3 s) kept many row' fields ties worth codes ∧ ∀ c', c' < m' → row' c' = i3 (gsd K W t fo s i (e' c')) := by
    intro rem
    induction rem with
    | zero =>
      intro w c row hc hw h
      obtain ⟨w, rfl⟩ : ∃ w', w = w' + 1 := ⟨w - 1, by omega⟩
      refine ⟨row, ?_, fun c' h1 => h c' (by omega)⟩
      unfold F5_isBeatenByKept_b8
      simp (disch := omega) only [xg_in, i3_xnN]
      rw [k1, if_pos (by rw [i3_le (by omega) (by omega) (by omega) (by omega)]; omega)]
    | succ rem ih =>
      intro w c row hc hw h
      obtain ⟨w, rfl⟩ : ∃ w', w = w' + 1 := ⟨w - 1, by omega⟩
      obtain ⟨k4, k5⟩ := k3 c (by omega)
      unfold F5_isBeatenByKept_b8
      simp (disch := omega) only [xg_in, i3_xnN]
      rw [k1, if_neg (show ¬ i3 (m' : Nat) ≤ i3 (c : Int) by rw [i3_le (by omega) (by omega) (by omega) (by omega)]; omega), k4, F4_gainFor_ok hX (by omega) hs hi k5]
      simp only [Option.bind_some]
      rw [show i3 (c : Int) + 1 = i3 ((c + 1 : Nat) : Int) from by rw [i3_l1, i3_add]; rfl]
      refine ih w (c + 1) _ (by omega) (by omega) (fun c' hc' => ?_)
      by_cases q : c' = c
      · subst q; exact upd_same _ _ _
      · rw [upd_diff _ _ q]; exact h c' (by omega)
  have e1 : (1 : Int32) - i3 (s : Int) = i3 ((1 - s : Nat) : Int) := by rw [i3_l1, i3_sub]; congr 1; omega
  obtain ⟨row', er, hr⟩ := rows m' z 0 row (by omega) (by omega) (fun c hc => absurd hc (Nat.not_lt_zero c))
  have loop : ∀ (rem w d : Nat), d + rem = m → rem < w → ((∃ d', d ≤ d' ∧ d' < m ∧ ∀ c, c < m' → gsd K W t fo s i (e' c) < gsd K W t fo s (e d') (e' c)) → F5_isBeatenByKept_b52 z w (i3 s) (i3 d) kept many row' fields ties worth codes = some (1, row')) ∧ ((¬ ∃ d', d ≤ d' ∧ d' < m ∧ ∀ c, c < m' → gsd K W t fo s i (e' c) < gsd K W t fo s (e d') (e' c)) → F5_isBeatenByKept_b52 z w (i3 s) (i3 d) kept many row' fields ties worth codes = some (0, row')) := by
    intro rem
    induction rem with
    | zero =>
      intro w d hd hw
      obtain ⟨w, rfl⟩ : ∃ w', w = w' + 1 := ⟨w - 1, by omega⟩
      unfold F5_isBeatenByKept_b52
      simp (disch := omega) only [xg_in, i3_xnN]
      rw [j1, if_pos (by rw [i3_le (by omega) (by omega) (by omega) (by omega)]; omega)]
      exact ⟨fun ⟨d', h1, h2, _⟩ => by omega, fun _ => rfl⟩
    | succ rem ih =>
      intro w d hd hw
      obtain ⟨w, rfl⟩ : ∃ w', w = w' + 1 := ⟨w - 1, by omega⟩
      obtain ⟨j4, j5⟩ := j3 d (by omega)
      have ab := aboveRow_ok hz hX hs j5 hk (row := row') (r := fun c => gsd K W t fo s i (e' c)) (fun c hc => ⟨hr c hc, gsd_bd hX.1 (fo := fo) s i (e' c)⟩)
      obtain ⟨i1, i2⟩ := ih w (d + 1) (by omega) (by omega)
      unfold F5_isBeatenByKept_b52
      simp (disch := omega) only [xg_in, i3_xnN]
      rw [j1, if_neg (show ¬ i3 (m : Nat) ≤ i3 (d : Int) by rw [i3_le (by omega) (by omega) (by omega) (by omega)]; omega), j4, show i3 (d : Int) + 1 = i3 ((d + 1 : Nat) : Int) from by rw [i3_l1, i3_add]; rfl]
      by_cases q : ∀ c, c < m' → gsd K W t fo s i (e' c) < gsd K W t fo s (e d) (e' c)
      · rw [ab.1 q]
        simp only [Option.bind_some]
        rw [if_neg n10]
        exact ⟨fun _ => rfl, fun h => absurd ⟨d, Nat.le_refl _, by omega, q⟩ h⟩
      · rw [ab.2 q]
        simp only [Option.bind_some, if_true]
        refine ⟨fun ⟨d', h1, h2, h3⟩ => i1 ⟨d', ?_, h2, h3⟩, fun h => i2 (fun ⟨d', h1, h2, h3⟩ => h ⟨d', by omega, h2, h3⟩)⟩
        by_cases c : d' = d
        · subst c; exact absurd h3 q
        · omega
  obtain ⟨l1, l2⟩ := loop m z 0 (by omega) (by omega)
  refine ⟨row', ?_⟩
  have er' : F5_isBeatenByKept_b8 z z (i3 s) (i3 i) (i3 ((1 - s : Nat) : Int)) 0 kept many row fields ties worth codes = _ := er
  unfold F5_isBeatenByKept
  rw [e1, er']
  unfold F5_isBeatenByKept_b49
  exact ⟨fun ⟨d, h1, h2⟩ => l1 ⟨d, Nat.zero_le _, h1, h2⟩, fun h => l2 (fun ⟨d, _, h1, h2⟩ => h ⟨d, h1, h2⟩)⟩
/-- the sets as the class holds them -/
def KPs (K : Nat) (fo : Nat → Nat) (L : Nat → Nat → Bool) (kept : Nat → Nat → Int32) (many : Nat → Int32) : Prop := ∀ s, s < 2 → many s = i3 (cf (L s) (ns K (fo s)) : Nat) ∧ ∀ c, c < cf (L s) (ns K (fo s)) → kept s c = i3 (gt (L s) (ns K (fo s)) c : Nat)
theorem KPs_Kp {K : Nat} {fo : Nat → Nat} {L : Nat → Nat → Bool} {kept : Nat → Nat → Int32} {many : Nat → Int32} (h : KPs K fo L kept many) {s : Nat} (hs : s < 2) : Kp (ns K (fo s)) (cf (L s) (ns K (fo s))) (gt (L s) (ns K (fo s))) (kept s) (many s) := ⟨(h s hs).1, cf_le _ _, fun c hc => ⟨(h s hs).2 c hc, (gt_ex hc).1⟩⟩
theorem beaten_Gs {z K : Nat} (hz : 200 ≤ z) {W : Nat → Int} {t : Int} {fo : Nat → Nat} {fields ties : Int32} {worth forces smany : Nat → Int32} {codes : Nat → Nat → Int32} (hX : SX K W t fo fields ties worth forces smany codes) {L : Nat → Nat → Bool} (hne : ∀ s, s < 2 → ∃ i, i < ns K (fo s) ∧ L s i = true) {kept : Nat → Nat → Int32} {many : Nat → Int32} (hk : KPs K fo L kept many) {s i : Nat} (hs : s < 2) (hi : i < ns K (fo s)) (row : Nat → Int32) : ∃ row', F5_isBeatenByKept z (i3 s) (i3 i) kept many row fields ties worth codes = some (i3 (if pd (Gs K W t fo L s i) then 1 else 0), row') := by
  have hs' : 1 - s < 2 := by omega
  obtain ⟨row', h1, h2⟩ := beaten_ok hz hX hs hi row (KPs_Kp hk hs) (KPs_Kp hk hs')
  refine ⟨row', ?_⟩
  have iff : (∃ d, d < cf (L s) (ns K (fo s)) ∧ ∀ c, c < cf (L (1 - s)) (ns K (fo (1 - s))) → gsd K W t fo s i (gt (L (1 - s)) (ns K (fo (1 - s))) c) < gsd K W t fo s (gt (L s) (ns K (fo s)) d) (gt (L (1 - s)) (ns K (fo (1 - s))) c)) ↔ Gs K W t fo L s i := by
    constructor
    · intro ⟨d, hd, h⟩
      obtain ⟨g1, g2, g3⟩ := gt_ex hd
      refine ⟨_, g1, g2, wrs_s.mpr ⟨fun k hk lk => ?_, hne (1 - s) hs'⟩⟩
      have hc : cf (L (1 - s)) k < cf (L (1 - s)) (ns K (fo (1 - s))) := by
        have a := cf_mono (p := L (1 - s)) (i := k + 1) (j := ns K (fo (1 - s))) hk
        have b : cf (L (1 - s)) (k + 1) = cf (L (1 - s)) k + 1 := by show cf (L (1 - s)) k + (if L (1 - s) k then 1 else 0) = _; rw [if_pos lk]
        omega
      have := h _ hc
      rw [gt_at hk lk] at this
      exact this
    · intro ⟨j, hj, lj, hw⟩
      have hc : cf (L s) j < cf (L s) (ns K (fo s)) := by
        have a := cf_mono (p := L s) (i := j + 1) (j := ns K (fo s)) hj
        have b : cf (L s) (j + 1) = cf (L s) j + 1 := by show cf (L s) j + (if L s j then 1 else 0) = _; rw [if_pos lj]
        omega
      refine ⟨_, hc, fun c hc' => ?_⟩
      rw [gt_at hj lj]
      obtain ⟨g1, g2, g3⟩ := gt_ex hc'
      exact (wrs_s.mp hw).1 _ g1 g2
  by_cases q : Gs K W t fo L s i
  · rw [pd_t.mpr q]; exact h1 (iff.mpr q)
  · rw [pd_f.mpr q]; exact h2 (fun c => q (iff.mp c))
theorem mark_ok {z K : Nat} (hz : 200 ≤ z) {W : Nat → Int} {t : Int} {fo : Nat → Nat} {fields ties : Int32} {worth forces smany : Nat → Int32} {codes : Nat → Nat → Int32} (hX : SX K W t fo fields ties worth forces smany codes) {L : Nat → Nat → Bool} (hne : ∀ s, s < 2 → ∃ i, i < ns K (fo s) ∧ L s i = true) {kept : Nat → Nat → Int32} {many : Nat → Int32} (hk : KPs K fo L kept many) {s : Nat} (hs : s < 2) (hsym : ∀ i, i < ns K (fo s) → L s i = true → L s (li K W (fo s) i) = true ∧ pd (Gs K W t fo L s (li K W (fo s) i)) = pd (Gs K W t fo L s i)) (goes : Nat → Nat → Int32) (row : Nat → Int32) : ∃ goes' row', F5_markBeaten z (i3 s) kept many goes row fields ties worth smany codes = some (goes', row') ∧ (∀ i, i < ns K (fo s) → L s i = true → goes' s i = i3 (if pd (Gs K W t fo L s i) then 1 else 0)) ∧ (∀ s', s' ≠ s → goes' s' = goes s') := by
  have hV := hX.1
  have hf := hX.2.1 s hs
  have n0 := ns_bd hV hf
  obtain ⟨k1, k2, k3⟩ := KPs_Kp hk hs
  have blt : Nat.blt s 2 = true := by rw [Nat.blt_eq]; exact hs
  have loop : ∀ (rem w c : Nat) (goes1 : Nat → Nat → Int32) (row : Nat → Int32), c + rem = cf (L s) (ns K (fo s)) → rem < w → (∀ c', c' < c → goes1 s (gt (L s) (ns K (fo s)) c') = i3 (if pd (Gs K W t fo L s (gt (L s) (ns K (fo s)) c')) then 1 else 0)) → (∀ s', s' ≠ s → goes1 s' = goes s') → ∃ goes' row', F5_markBeaten_b2 z w (i3 s) (i3 c) kept many goes1 row fields ties worth smany codes = some (goes', row') ∧ (∀ c', c' < cf (L s) (ns K (fo s)) → goes' s (gt (L s) (ns K (fo s)) c') = i3 (if pd (Gs K W t fo L s (gt (L s) (ns K (fo s)) c')) then 1 else 0)) ∧ (∀ s', s' ≠ s → goes' s' = goes s') := by
    intro rem
    induction rem with
    | zero =>
      intro w c goes1 row hc hw h h'
      obtain ⟨w, rfl⟩ : ∃ w', w = w' + 1 := ⟨w - 1, by omega⟩
      refine ⟨goes1, row, ?_, fun c' hc' => h c' (by omega), h'⟩
      unfold F5_markBeaten_b2
      simp (disch := omega) only [xg_in, i3_xnN]
      rw [k1, if_pos (by rw [i3_le (by omega) (by omega) (by omega) (by omega)]; omega)]
    | succ rem ih =>
      intro w c goes1 row hc hw h h'
      obtain ⟨w, rfl⟩ : ∃ w', w = w' + 1 := ⟨w - 1, by omega⟩
      have hcm : c < cf (L s) (ns K (fo s)) := by omega
      obtain ⟨k4, k5⟩ := k3 c hcm
      obtain ⟨g1, g2, g3⟩ := gt_ex hcm
      generalize hi' : gt (L s) (ns K (fo s)) c = i at k4 k5 g1 g2 g3
      have lo := li_ok hV.1 hV.2.1 hf (W := W) g1
      have ll := li_le hV.1 hV.2.1 hf (W := W) g1
      have nxt : ∀ (v : Int32) (row1 : Nat → Int32), v = i3 (if pd (Gs K W t fo L s i) then 1 else 0) → ∃ goes' row', F5_markBeaten_b2 z w (i3 s) (i3 (c + 1 : Nat)) kept many (va_up goes1 s (upd (goes1 s) i v)) row1 fields ties worth smany codes = some (goes', row') ∧ (∀ c', c' < cf (L s) (ns K (fo s)) → goes' s (gt (L s) (ns K (fo s)) c') = i3 (if pd (Gs K W t fo L s (gt (L s) (ns K (fo s)) c')) then 1 else 0)) ∧ (∀ s', s' ≠ s → goes' s' = goes s') := by
        intro v row1 hv
        refine ih w (c + 1) _ row1 (by omega) (by omega) (fun c' hc' => ?_) (fun s' hs' => by rw [va_up_ne _ _ hs']; exact h' s' hs')
        rw [va_up_self]
        by_cases q : c' = c
        · subst q; rw [hi', upd_same, hv]
        · rw [upd_diff _ _ (fun e => q (by
            have a := (gt_ex (show c' < cf (L s) (ns K (fo s)) by omega)).2.2
            rw [e] at a
            omega))]
          exact h c' (by omega)
      unfold F5_markBeaten_b2
      simp (disch := omega) only [xg_in, i3_xnN]
      rw [k1, if_neg (show ¬ i3 (cf (L s) (ns K (fo s)) : Nat) ≤ i3 (c : Int) by rw [i3_le (by omega) (by omega) (by omega) (by omega)]; omega), k4, shapeFirst_ok hz hX hs g1]
      simp only [Option.bind_some]
      rw [if_neg (show ¬ i3 (li K W (fo s) i : Nat) < 0 by rw [i3_l0, i3_lt (by omega) (by omega) (by omega) (by omega)]; omega)]
      unfold F5_markBeaten_b48 F5_markBeaten_b91
      simp (disch := omega) only [xg_in, i3_xnN]
      rw [blt, show i3 (c : Int) + 1 = i3 ((c + 1 : Nat) : Int) from by rw [i3_l1, i3_add]; rfl]
      by_cases q : i ≤ li K W (fo s) i
      · rw [if_pos (show i3 (i : Nat) ≤ i3 (li K W (fo s) i : Nat) by rw [i3_le (by omega) (by omega) (by omega) (by omega)]; omega)]
        obtain ⟨row1, eb⟩ := beaten_Gs hz hX hne hk hs g1 row
        simp only [if_true]
        rw [eb]
        simp only [Option.bind_some]
        cases hp : pd (Gs K W t fo L s i)
        · rw [hp] at nxt
          exact nxt 0 row1 rfl
        · rw [hp] at nxt
          exact nxt 1 row1 rfl
      · rw [if_neg (show ¬ i3 (i : Nat) ≤ i3 (li K W (fo s) i : Nat) by rw [i3_le (by omega) (by omega) (by omega) (by omega)]; omega), if_neg n10]
        obtain ⟨s1, s2⟩ := hsym i g1 g2
        have e1 := gt_at lo.1 s1
        have e2 : cf (L s) (li K W (fo s) i) < c := by
          have a := cf_mono (p := L s) (i := li K W (fo s) i + 1) (j := i) (by omega)
          have b : cf (L s) (li K W (fo s) i + 1) = cf (L s) (li K W (fo s) i) + 1 := by show cf (L s) (li K W (fo s) i) + (if L s (li K W (fo s) i) then 1 else 0) = _; rw [if_pos s1]
          omega
        have e3 := h _ e2
        rw [e1, s2] at e3
        exact nxt _ row e3
  obtain ⟨goes', row', e1, h1, h2⟩ := loop (cf (L s) (ns K (fo s))) z 0 goes row (by omega) (by omega) (fun c hc => absurd hc (Nat.not_lt_zero c)) (fun _ _ => rfl)
  refine ⟨goes', row', e1, fun i hi hl => ?_, h2⟩
  have hc : cf (L s) i < cf (L s) (ns K (fo s)) := by
    have a := cf_mono (p := L s) (i := i + 1) (j := ns K (fo s)) hi
    have b : cf (L s) (i + 1) = cf (L s) i + 1 := by show cf (L s) i + (if L s i then 1 else 0) = _; rw [if_pos hl]
    omega
  have := h1 _ hc
  rw [gt_at hi hl] at this
  exact this
theorem cf_flat {p q : Nat → Bool} (h : ∀ i, q i = true → p i = true) {a : Nat} : ∀ (d : Nat), cf p (a + d) = cf p a → cf q (a + d) = cf q a := by
  intro d
  induction d with
  | zero => intro _; rfl
  | succ d ih =>
    intro hd
    have h1 : cf p (a + d) + (if p (a + d) then 1 else 0) = cf p a := hd
    have h2 := cf_mono (p := p) (i := a) (j := a + d) (by omega)
    have h3 : p (a + d) = false := by
      cases c : p (a + d)
      · rfl
      · rw [c, if_pos rfl] at h1; omega
    have h4 : q (a + d) = false := by
      cases c : q (a + d)
      · rfl
      · rw [h _ c] at h3; exact absurd h3 (by decide)
    rw [h3, if_neg (by decide)] at h1
    show cf q (a + d) + (if q (a + d) then 1 else 0) = cf q a
    rw [h4, if_neg (by decide), ih (by omega)]
    omega
theorem drop_ok {z n s : Nat} (hz : 200 ≤ z) (hn : n ≤ 120) (hs : s < 2) {L L2 : Nat → Bool} {G : Nat → Bool} (hL2 : ∀ i, L2 i = (L i && !G i)) {kept : Nat → Nat → Int32} {many : Nat → Int32} (h1 : many s = i3 (cf L n : Nat)) (h2 : ∀ c, c < cf L n → kept s c = i3 (gt L n c : Nat)) {goes : Nat → Nat → Int32} (hg : ∀ i, i < n → L i = true → goes s i = i3 (if G i then 1 else 0)) : ∃ kept', F5_dropMarked z (i3 s) kept many goes = some ((if cf L2 n < cf L n then 1 else 0), kept', upd many s (i3 (cf L2 n : Nat))) ∧ (∀ c, c < cf L2 n → kept' s c = i3 (gt L2 n c : Nat)) ∧ (∀ s', s' ≠ s → kept' s' = kept s') := by
  have hm := cf_le L n
  have sub : ∀ i, L2 i = true → L i = true := fun i h => by
    rw [hL2, Bool.and_eq_true] at h
    exact h.1
  have le2 := fun a => (cf_sub (p := L) (q := L2) a (fun i _ => sub i)).1
  have loop : ∀ (rem w c p : Nat) (kept1 : Nat → Nat → Int32), c + rem = cf L n → rem < w → p ≤ n → cf L p = c → (c < cf L n → p = gt L n c) → (c = cf L n → p = n) → (∀ u, u < cf L2 p → kept1 s u = i3 (gt L2 n u : Nat)) → (∀ c', c ≤ c' → c' < cf L n → kept1 s c' = i3 (gt L n c' : Nat)) → (∀ s', s' ≠ s → kept1 s' = kept s') → ∃ kept', F5_dropMarked_b4 z w (i3 s) (i3 (cf L2 p : Nat)) (i3 c) kept1 many goes = some ((if cf L2 n < cf L n then 1 else 0), kept', upd many s (i3 (cf L2 n : Nat))) ∧ (∀ c, c < cf L2 n → kept' s c = i3 (gt L2 n c : Nat)) ∧ (∀ s', s' ≠ s → kept' s' = kept s') := by
    intro rem
    induction rem with
    | zero =>
      intro w c p kept1 hc hw hp q1 q2 q3 r1 r2 r3
      obtain ⟨w, rfl⟩ : ∃ w', w = w' + 1 := ⟨w - 1, by omega⟩
      obtain rfl := q3 (by omega)
      have l2 := le2 p
      refine ⟨kept1, ?_, r1, r3⟩
      unfold F5_dropMarked_b4 F5_dropMarked_b55 F5_dropMarked_b70
      simp (disch := omega) only [xg_in, i3_xnN]
      rw [h1, if_pos (show i3 (cf L p : Nat) ≤ i3 (c : Int) by rw [i3_le (by omega) (by omega) (by omega) (by omega)]; omega)]
      by_cases e : cf L2 p < cf L p
      · rw [if_neg (show ¬ i3 (cf L p : Nat) ≤ i3 (cf L2 p : Nat) by rw [i3_le (by omega) (by omega) (by omega) (by omega)]; omega), if_pos e]
        rfl
      · rw [if_pos (show i3 (cf L p : Nat) ≤ i3 (cf L2 p : Nat) by rw [i3_le (by omega) (by omega) (by omega) (by omega)]; omega), if_neg e]
        rfl
    | succ rem ih =>
      intro w c p kept1 hc hw hp q1 q2 q3 r1 r2 r3
      obtain ⟨w, rfl⟩ : ∃ w', w = w' + 1 := ⟨w - 1, by omega⟩
      have hcm : c < cf L n := by omega
      have ep := q2 hcm
      obtain ⟨g1, g2, g3⟩ := gt_ex hcm
      rw [← ep] at g1 g2 g3
      have l2 := le2 p
      have kc := r2 c (Nat.le_refl _) hcm
      rw [← ep] at kc
      have cL : cf L (p + 1) = c + 1 := by show cf L p + (if L p then 1 else 0) = _; rw [if_pos g2]; omega
      -- the next place
      obtain ⟨p', p1, p2, p3, p4⟩ : ∃ p', p' ≤ n ∧ cf L p' = c + 1 ∧ (c + 1 < cf L n → p' = gt L n (c + 1)) ∧ (c + 1 = cf L n → p' = n) := by
        by_cases e : c + 1 < cf L n
        · obtain ⟨a1, a2, a3⟩ := gt_ex e
          exact ⟨_, by omega, a3, fun _ => rfl, fun h => by omega⟩
        · exact ⟨n, Nat.le_refl _, by omega, fun h => absurd h e, fun _ => rfl⟩
      have pp : p + 1 ≤ p' := by
        rcases Nat.lt_or_ge p p' with a | a
        · exact a
        · have := cf_mono (p := L) a
          omega
      have fl : cf L2 p' = cf L2 (p + 1) := by
        have := cf_flat sub (a := p + 1) (p' - (p + 1)) (by rw [show p + 1 + (p' - (p + 1)) = p' by omega]; omega)
        rw [show p + 1 + (p' - (p + 1)) = p' by omega] at this
        exact this
      have fl2 : cf L2 (p + 1) = cf L2 p + (if L2 p then 1 else 0) := rfl
      unfold F5_dropMarked_b4
      simp (disch := omega) only [xg_in, i3_xnN]
      rw [h1, if_neg (show ¬ i3 (cf L n : Nat) ≤ i3 (c : Int) by rw [i3_le (by omega) (by omega) (by omega) (by omega)]; omega), kc]
      simp (disch := omega) only [xg_in, i3_xnN]
      rw [hg p (by omega) g2]
      unfold F5_dropMarked_b49
      rw [show i3 (c : Int) + 1 = i3 ((c + 1 : Nat) : Int) from by rw [i3_l1, i3_add]; rfl]
      cases hG : G p
      · have l2p : L2 p = true := by rw [hL2, g2, hG]; rfl
        rw [l2p, if_pos rfl] at fl2
        rw [if_pos (show i3 (if false = true then 1 else 0) = 0 from rfl), show i3 (cf L2 p : Nat) + 1 = i3 ((cf L2 p + 1 : Nat) : Int) from by rw [i3_l1, i3_add]; rfl, ← fl2, ← fl]
        refine ih w (c + 1) p' _ (by omega) (by omega) p1 p2 p3 p4 (fun u hu => ?_) (fun c' hc1 hc2 => ?_) (fun s' hs' => by rw [va_up_ne _ _ hs']; exact r3 s' hs')
        · rw [va_up_self]
          by_cases e : u = cf L2 p
          · subst e; rw [upd_same, gt_at (by omega) l2p]
          · rw [upd_diff _ _ e]; exact r1 u (by omega)
        · rw [va_up_self, upd_diff _ _ (by omega)]; exact r2 c' (by omega) hc2
      · have l2p : L2 p = false := by rw [hL2, g2, hG]; rfl
        rw [l2p, if_neg (by decide)] at fl2
        rw [if_neg (show ¬ i3 (if true = true then 1 else 0) = 0 from n10), show cf L2 p = cf L2 p' by omega]
        exact ih w (c + 1) p' _ (by omega) (by omega) p1 p2 p3 p4 (fun u hu => r1 u (by omega)) (fun c' hc1 hc2 => r2 c' (by omega) hc2) r3
  obtain ⟨p0, a1, a2, a3, a4⟩ : ∃ p, p ≤ n ∧ cf L p = 0 ∧ (0 < cf L n → p = gt L n 0) ∧ (0 = cf L n → p = n) := by
    by_cases e : 0 < cf L n
    · obtain ⟨b1, b2, b3⟩ := gt_ex e
      exact ⟨_, by omega, b3, fun _ => rfl, fun h => by omega⟩
    · exact ⟨n, Nat.le_refl _, by omega, fun h => absurd h e, fun _ => rfl⟩
  have z2 : cf L2 p0 = 0 := by have := le2 p0; omega
  have := loop (cf L n) z 0 p0 kept (by omega) (by omega) a1 a2 a3 a4 (fun u hu => by omega) (fun c' _ hc => h2 c' hc) (fun _ _ => rfl)
  rw [z2] at this
  exact this
