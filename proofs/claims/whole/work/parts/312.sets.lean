/-! ===== what the class and the reference hold of fields, forces, ties, splits, gains ===== -/
def SX (K : Nat) (W : Nat → Int) (t : Int) (fo : Nat → Nat) (fields ties : Int32) (worth forces many : Nat → Int32) (codes : Nat → Nat → Int32) : Prop :=
  Vd K W t ∧ (∀ s, s < 2 → fo s ≤ 7) ∧ fields = i3 K ∧ ties = i3 t ∧ (∀ k, k < K → worth k = i3 (W k)) ∧ (∀ s, s < 2 → forces s = i3 (fo s)) ∧ (∀ s, s < 2 → many s = i3 (ns K (fo s) : Nat)) ∧ (∀ s i, s < 2 → i < ns K (fo s) → codes s i = i3 (cd K (fo s) i : Nat))
def SM (K : Nat) (W : Nat → Int) (t : Int) (fo : Nat → Nat) (told many eights gains : Nat → Int32) : Prop :=
  Vd K W t ∧ (∀ s, s < 2 → fo s ≤ 7) ∧ told 0 = i3 K ∧ (∀ k, k < K → told (1 + k) = i3 (W k)) ∧ (∀ s, s < 2 → told (5 + s) = i3 (fo s)) ∧ told 7 = i3 t ∧ (∀ s, s < 2 → many s = i3 (ns K (fo s) : Nat)) ∧ (∀ s i, s < 2 → i < ns K (fo s) → eights (128 * s + i) = i3 (cd K (fo s) i : Nat)) ∧ (∀ i j, i < ns K (fo 0) → j < ns K (fo 1) → gains (128 * i + j) = i3 (gn K W t (cd K (fo 0) i) (cd K (fo 1) j)))
theorem ns_bd {K f : Nat} {W : Nat → Int} {t : Int} (hV : Vd K W t) (hf : f ≤ 7) : ns K f ≤ 120 ∧ 0 < ns K f := (cl_facts hV.1 hV.2.1 hf).2.2
/-- what a side gains by its i-th against the j-th of the other one -/
def gsd (K : Nat) (W : Nat → Int) (t : Int) (fo : Nat → Nat) (s i j : Nat) : Int := if s = 0 then gn K W t (cd K (fo 0) i) (cd K (fo 1) j) else - gn K W t (cd K (fo 0) j) (cd K (fo 1) i)
theorem gsd_bd {K : Nat} {W : Nat → Int} {t : Int} {fo : Nat → Nat} (hV : Vd K W t) (s i j : Nat) : -8 ≤ gsd K W t fo s i j ∧ gsd K W t fo s i j ≤ 8 := by
  have h1 := gn_bd hV (cd K (fo 0) i) (cd K (fo 1) j)
  have h2 := gn_bd hV (cd K (fo 0) j) (cd K (fo 1) i)
  unfold gsd
  split <;> omega
theorem two_cases {s : Nat} (h : s < 2) : s = 0 ∨ s = 1 := by omega
theorem F4_gainFor_ok {z K : Nat} {W : Nat → Int} {t : Int} {fo : Nat → Nat} {fields ties : Int32} {worth forces many : Nat → Int32} {codes : Nat → Nat → Int32} (hX : SX K W t fo fields ties worth forces many codes) (hz : 10 ≤ z) {s i j : Nat} (hs : s < 2) (hi : i < ns K (fo s)) (hj : j < ns K (fo (1 - s))) : F4_gainFor z (i3 s) (i3 i) (i3 j) fields ties worth codes = some (i3 (gsd K W t fo s i j)) := by
  obtain ⟨hV, hfo, rfl, rfl, hw, -, -, hc⟩ := hX
  have hK := hV.2.1
  have n0 := ns_bd hV (hfo 0 (by omega))
  have n1 := ns_bd hV (hfo 1 (by omega))
  have hb : ∀ (x1 : Int32) (a b : Nat), a < 4096 → b < 4096 → F4_gainFor_b48 z x1 (i3 a) (i3 b) (i3 K) (i3 t) worth codes = some (if x1 = 0 then i3 (gn K W t a b) else i3 (- gn K W t a b)) := fun x1 a b ha hb => by
    unfold F4_gainFor_b48
    exact F4_gainFor_b56_ok (codes := codes) hV ha hb hw K z 0 (by omega) (by omega)
  unfold F4_gainFor F4_gainFor_b23
  rcases two_cases hs with rfl | rfl
  · have hj : j < ns K (fo 1) := hj
    have e0 : (i3 ((0 : Nat) : Int)) = 0 := rfl
    rw [e0]
    simp only [if_true]
    rw [xg_in _ (by omega) (by omega) (by omega), xg_in _ (by omega) (by omega) (by omega), i3_xnN (by omega), i3_xnN (by omega), hc 0 i (by omega) hi, hc 1 j (by omega) hj, hb _ _ _ (cd_lt hK hi) (cd_lt hK hj)]
    simp [gsd]
  · have hj : j < ns K (fo 0) := hj
    have e0 : ¬ (i3 ((1 : Nat) : Int)) = 0 := by decide
    rw [if_neg e0, if_neg e0]
    rw [xg_in _ (by omega) (by omega) (by omega), xg_in _ (by omega) (by omega) (by omega), i3_xnN (by omega), i3_xnN (by omega), hc 0 j (by omega) hj, hc 1 i (by omega) hi, hb _ _ _ (cd_lt hK hj) (cd_lt hK hi), if_neg e0]
    simp [gsd]
theorem F10_gainFor_ok {K : Nat} {W : Nat → Int} {t : Int} {fo : Nat → Nat} {told many eights gains : Nat → Int32} (hM : SM K W t fo told many eights gains) {s i j : Nat} (hs : s < 2) (hi : i < ns K (fo s)) (hj : j < ns K (fo (1 - s))) : F10_gainFor (i3 s) (i3 i) (i3 j) gains = some (i3 (gsd K W t fo s i j)) := by
  obtain ⟨hV, hfo, -, -, -, -, -, -, hg⟩ := hM
  have n0 := ns_bd hV (hfo 0 (by omega))
  have n1 := ns_bd hV (hfo 1 (by omega))
  unfold F10_gainFor
  rcases two_cases hs with rfl | rfl
  · have hj : j < ns K (fo 1) := hj
    have e0 : (i3 ((0 : Nat) : Int)) = 0 := rfl
    have e1 : (128 : Int32) * i3 (i : Int) + i3 (j : Int) = i3 ((128 * i + j : Nat) : Int) := by
      rw [i3_l128, i3_mul, i3_add]; congr 1 <;> omega
    rw [e0, if_pos rfl, e1, xg_in _ (by omega) (by omega) (by omega), i3_xnN (by omega), hg i j hi hj]
    rfl
  · have hj : j < ns K (fo 0) := hj
    have e0 : ¬ (i3 ((1 : Nat) : Int)) = 0 := by decide
    have e1 : (128 : Int32) * i3 (j : Int) + i3 (i : Int) = i3 ((128 * j + i : Nat) : Int) := by
      rw [i3_l128, i3_mul, i3_add]; congr 1 <;> omega
    rw [if_neg e0, e1, xg_in _ (by omega) (by omega) (by omega), i3_xnN (by omega), hg j i hj hi, i3_neg]
    rfl
theorem F10_eightsOf_ok {K : Nat} {W : Nat → Int} {t : Int} {fo : Nat → Nat} {told many eights gains : Nat → Int32} (hM : SM K W t fo told many eights gains) {s i : Nat} (hs : s < 2) (hi : i < ns K (fo s)) : F10_eightsOf (i3 s) (i3 i) eights = some (i3 (cd K (fo s) i : Nat)) := by
  obtain ⟨hV, hfo, -, -, -, -, -, he, -⟩ := hM
  have n0 := ns_bd hV (hfo s hs)
  have e1 : (128 : Int32) * i3 (s : Int) + i3 (i : Int) = i3 ((128 * s + i : Nat) : Int) := by
    rw [i3_l128, i3_mul, i3_add]; congr 1 <;> omega
  unfold F10_eightsOf
  rw [e1, xg_in _ (by omega) (by omega) (by omega), i3_xnN (by omega), he s i hs hi]
theorem F10_on_ok {K : Nat} {W : Nat → Int} {t : Int} {fo : Nat → Nat} {told many eights gains : Nat → Int32} (hM : SM K W t fo told many eights gains) {s i k : Nat} (hs : s < 2) (hi : i < ns K (fo s)) (hk : k < K) : F10_on (i3 s) (i3 i) (i3 k) told eights = some (i3 (dg K (cd K (fo s) i) k : Nat)) := by
  have hK := hM.1.2.1
  unfold F10_on
  rw [F10_eightsOf_ok hM hs hi]
  simp only [Option.bind_some]
  rw [hM.2.2.1]
  have e : (3 : Int32) * ((i3 K - (1 : Int32)) - i3 k) = i3 ((3 * (K - 1 - k) : Nat) : Int) := by
    rw [i3_l3, i3_l1, i3_sub, i3_sub, i3_mul]; congr 1 <;> omega
  rw [e, i3_shr (cd_lt hK hi) (by omega)]
  rfl
theorem F10_worth_ok {K : Nat} {W : Nat → Int} {t : Int} {fo : Nat → Nat} {told many eights gains : Nat → Int32} (hM : SM K W t fo told many eights gains) {k : Nat} (hk : k < K) : F10_worth (i3 k) told = some (i3 (W k)) := by
  have hK := hM.1.2.1
  have e1 : (1 : Int32) + i3 (k : Int) = i3 ((1 + k : Nat) : Int) := by
    rw [i3_l1, i3_add]; congr 1
  unfold F10_worth
  rw [e1, xg_in _ (by omega) (by omega) (by omega), i3_xnN (by omega), hM.2.2.2.1 k hk]
/-- the first that has a thing, from k on, r of them -/
def fnd (p : Nat → Bool) : Nat → Nat → Int
  | _, 0 => -1
  | k, r + 1 => if p k then k else fnd p (k + 1) r
theorem F4_numberOf_b2_ok {z K : Nat} {W : Nat → Int} {t : Int} {fo : Nat → Nat} {fields ties : Int32} {worth forces many : Nat → Int32} {codes : Nat → Nat → Int32} (hX : SX K W t fo fields ties worth forces many codes) {s : Nat} (hs : s < 2) (x : Int32) : ∀ (rem w k : Nat), k + rem = ns K (fo s) → rem < w → F4_numberOf_b2 z w (i3 s) x (i3 k) many codes = some (i3 (fnd (fun i => decide (i3 (cd K (fo s) i : Nat) = x)) k rem)) := by
  obtain ⟨hV, hfo, -, -, -, -, hm, hc⟩ := hX
  have n0 := ns_bd hV (hfo s hs)
  intro rem
  induction rem with
  | zero =>
    intro w k hk hw
    obtain ⟨w, rfl⟩ : ∃ w', w = w' + 1 := ⟨w - 1, by omega⟩
    unfold F4_numberOf_b2
    rw [xg_in _ (by omega) (by omega) (by omega), i3_xnN (by omega), hm s hs, if_pos (by rw [i3_le (by omega) (by omega) (by omega) (by omega)]; omega)]
    rfl
  | succ rem ih =>
    intro w k hk hw
    obtain ⟨w, rfl⟩ : ∃ w', w = w' + 1 := ⟨w - 1, by omega⟩
    unfold F4_numberOf_b2
    rw [xg_in _ (by omega) (by omega) (by omega), i3_xnN (by omega), hm s hs, if_neg (by rw [i3_le (by omega) (by omega) (by omega) (by omega)]; omega), xg_in _ (by omega) (by omega) (by omega), xg_in _ (by omega) (by omega) (by omega), i3_xnN (by omega), hc s k hs (by omega)]
    show _ = some (i3 (if decide (i3 (cd K (fo s) k : Nat) = x) = true then (k : Int) else fnd _ (k + 1) rem))
    by_cases e : i3 (cd K (fo s) k : Nat) = x
    · rw [if_pos e, if_pos (by simpa using e)]
    · rw [if_neg e, if_neg (by simpa using e), i3_l1, i3_add]
      exact ih w (k + 1) (by omega) (by omega)
theorem F10_numberOf_b2_ok {z K : Nat} {W : Nat → Int} {t : Int} {fo : Nat → Nat} {told many eights gains : Nat → Int32} (hM : SM K W t fo told many eights gains) {s : Nat} (hs : s < 2) (x : Int32) : ∀ (rem w k : Nat), k + rem = ns K (fo s) → rem < w → F10_numberOf_b2 z w (i3 s) x (i3 k) many eights = some (i3 (fnd (fun i => decide (i3 (cd K (fo s) i : Nat) = x)) k rem)) := by
  have n0 := ns_bd hM.1 (hM.2.1 s hs)
  have hm := hM.2.2.2.2.2.2.1
  intro rem
  induction rem with
  | zero =>
    intro w k hk hw
    obtain ⟨w, rfl⟩ : ∃ w', w = w' + 1 := ⟨w - 1, by omega⟩
    unfold F10_numberOf_b2
    rw [xg_in _ (by omega) (by omega) (by omega), i3_xnN (by omega), hm s hs, if_pos (by rw [i3_le (by omega) (by omega) (by omega) (by omega)]; omega)]
    rfl
  | succ rem ih =>
    intro w k hk hw
    obtain ⟨w, rfl⟩ : ∃ w', w = w' + 1 := ⟨w - 1, by omega⟩
    unfold F10_numberOf_b2
    rw [xg_in _ (by omega) (by omega) (by omega), i3_xnN (by omega), hm s hs, if_neg (by rw [i3_le (by omega) (by omega) (by omega) (by omega)]; omega), F10_eightsOf_ok hM hs (by omega)]
    simp only [Option.bind_some]
    show _ = some (i3 (if decide (i3 (cd K (fo s) k : Nat) = x) = true then (k : Int) else fnd _ (k + 1) rem))
    by_cases e : i3 (cd K (fo s) k : Nat) = x
    · rw [if_pos e, if_pos (by simpa using e)]
    · rw [if_neg e, if_neg (by simpa using e), i3_l1, i3_add]
      exact ih w (k + 1) (by omega) (by omega)
/-- the number of a split by its code -/
def nmb (K f : Nat) (x : Int32) : Int := fnd (fun i => decide (i3 (cd K f i : Nat) = x)) 0 (ns K f)
theorem F4_numberOf_ok {z K : Nat} {W : Nat → Int} {t : Int} {fo : Nat → Nat} {fields ties : Int32} {worth forces many : Nat → Int32} {codes : Nat → Nat → Int32} (hX : SX K W t fo fields ties worth forces many codes) {s : Nat} (hs : s < 2) (hz : 200 ≤ z) (x : Int32) : F4_numberOf z (i3 s) x many codes = some (i3 (nmb K (fo s) x)) := by
  have n0 := ns_bd hX.1 (hX.2.1 s hs)
  exact F4_numberOf_b2_ok hX hs x (ns K (fo s)) z 0 (by omega) (by omega)
theorem F10_numberOf_ok {z K : Nat} {W : Nat → Int} {t : Int} {fo : Nat → Nat} {told many eights gains : Nat → Int32} (hM : SM K W t fo told many eights gains) {s : Nat} (hs : s < 2) (hz : 200 ≤ z) (x : Int32) : F10_numberOf z (i3 s) x many eights = some (i3 (nmb K (fo s) x)) := by
  have n0 := ns_bd hM.1 (hM.2.1 s hs)
  exact F10_numberOf_b2_ok hM hs x (ns K (fo s)) z 0 (by omega) (by omega)
theorem fnd_hit {p : Nat → Bool} : ∀ {r k i : Nat}, k ≤ i → i < k + r → p i = true → (∀ j, k ≤ j → j < i → p j = false) → fnd p k r = i
  | 0, k, i, h1, h2, _, _ => by omega
  | r + 1, k, i, h1, h2, hp, hn => by
    show (if p k then (k : Int) else fnd p (k + 1) r) = i
    by_cases e : k = i
    · subst e; rw [if_pos hp]
    · rw [if_neg (by rw [hn k (Nat.le_refl _) (by omega)]; decide)]
      exact fnd_hit (by omega) (by omega) hp (fun j hj1 hj2 => hn j (by omega) hj2)
theorem fnd_none {p : Nat → Bool} : ∀ {r k : Nat}, (∀ j, k ≤ j → j < k + r → p j = false) → fnd p k r = -1
  | 0, _, _ => rfl
  | r + 1, k, h => by
    show (if p k then (k : Int) else fnd p (k + 1) r) = -1
    rw [if_neg (by rw [h k (Nat.le_refl _) (by omega)]; decide)]
    exact fnd_none (fun j h1 h2 => h j (by omega) (by omega))
theorem fnd_bd {p : Nat → Bool} : ∀ {r k : Nat}, fnd p k r = -1 ∨ ∃ i : Nat, fnd p k r = i ∧ k ≤ i ∧ i < k + r ∧ p i = true ∧ ∀ j, k ≤ j → j < i → p j = false
  | 0, _ => Or.inl rfl
  | r + 1, k => by
    show (if p k then (k : Int) else fnd p (k + 1) r) = -1 ∨ ∃ i : Nat, (if p k then (k : Int) else fnd p (k + 1) r) = i ∧ _
    by_cases e : p k = true
    · rw [if_pos e]; exact Or.inr ⟨k, rfl, Nat.le_refl _, by omega, e, fun j h1 h2 => by omega⟩
    · rw [if_neg e]
      rcases fnd_bd (p := p) (r := r) (k := k + 1) with h | ⟨i, h1, h2, h3, h4, h5⟩
      · exact Or.inl h
      · refine Or.inr ⟨i, h1, by omega, by omega, h4, fun j hj1 hj2 => ?_⟩
        by_cases e2 : j = k
        · subst e2; simpa using e
        · exact h5 j (by omega) hj2
theorem nmb_cd {K f i : Nat} (hK : K ≤ 4) (hi : i < ns K f) : nmb K f (i3 (cd K f i : Nat)) = i := by
  refine fnd_hit (Nat.zero_le _) (by omega) (by simp) (fun j h1 h2 => ?_)
  have h3 := cd_mono h2 hi
  have h4 := cd_lt hK hi
  rw [decide_eq_false_iff_not, i3_eq (by omega) (by omega) (by omega) (by omega)]
  omega
theorem isSide9 (a : Int) (h1 : -2147483648 ≤ a) (h2 : a < 2147483648) : F9_isSide (i3 a) = some (if a = 0 ∨ a = 1 then 1 else 0) := by
  unfold F9_isSide
  rw [i3_l0, i3_l1]
  by_cases e0 : a = 0
  · subst e0; rw [if_pos rfl, if_pos (Or.inl rfl)]
  · rw [if_neg (by rw [i3_eq h1 h2 (by omega) (by omega)]; exact e0)]
    by_cases e1 : a = 1
    · subst e1; rw [if_pos rfl, if_pos (Or.inr rfl)]
    · rw [if_neg (by rw [i3_eq h1 h2 (by omega) (by omega)]; exact e1), if_neg (by omega)]
theorem isPart9 (a : Int) (h1 : -2147483648 ≤ a) (h2 : a < 2147483648) : F9_isPart (i3 a) = some (if a = 0 ∨ a = 1 then 1 else 0) := isSide9 a h1 h2
theorem within10 {a l h : Int} (h1 : -2147483648 ≤ a) (h2 : a < 2147483648) (h3 : -2147483648 ≤ l) (h4 : l < 2147483648) (h5 : -2147483648 ≤ h) (h6 : h < 2147483648) : F10_within (i3 a) (i3 l) (i3 h) = some (if l ≤ a ∧ a ≤ h then 1 else 0) := by
  unfold F10_within
  rw [i3_l0, i3_l1]
  by_cases e0 : a < l
  · rw [if_pos (by rw [i3_lt h1 h2 h3 h4]; exact e0), if_neg (by omega)]
  · rw [if_neg (by rw [i3_lt h1 h2 h3 h4]; exact e0)]
    by_cases e1 : h < a
    · rw [if_pos (by rw [i3_lt h5 h6 h1 h2]; exact e1), if_neg (by omega)]
    · rw [if_neg (by rw [i3_lt h5 h6 h1 h2]; exact e1), if_pos (by omega)]
theorem isSide10 (a : Int) (h1 : -2147483648 ≤ a) (h2 : a < 2147483648) : F10_isSide (i3 a) = some (if a = 0 ∨ a = 1 then 1 else 0) := by
  unfold F10_isSide
  rw [i3_l0, i3_l1, within10 h1 h2 (by omega) (by omega) (by omega) (by omega)]
  simp only [Option.bind_some]
  by_cases e : 0 ≤ a ∧ a ≤ 1
  · rw [if_pos e, if_pos (by omega)]; rfl
  · rw [if_neg e, if_neg (by omega)]; rfl
/-- a side and a number that is one of its splits -/
def isp (K : Nat) (fo : Nat → Nat) (a b : Int) : Prop := ∃ s i : Nat, a = s ∧ b = i ∧ s < 2 ∧ i < ns K (fo s)
theorem isSplit4_no {K : Nat} {W : Nat → Int} {t : Int} {fo : Nat → Nat} {fields ties : Int32} {worth forces many : Nat → Int32} {codes : Nat → Nat → Int32} (hX : SX K W t fo fields ties worth forces many codes) {a b : Int} (h1 : -2147483648 ≤ a) (h2 : a < 2147483648) (h3 : -2147483648 ≤ b) (h4 : b < 2147483648) (h : ¬ isp K fo a b) : F4_isSplit (i3 a) (i3 b) many = some 0 := by
  unfold F4_isSplit
  rw [isSide9 a h1 h2]
  simp only [Option.bind_some]
  by_cases e : a = 0 ∨ a = 1
  · rw [if_pos e, if_neg (by decide)]
    by_cases e2 : b < 0
    · rw [if_pos (by rw [i3_l0, i3_lt h3 h4 (by omega) (by omega)]; exact e2)]
    · obtain ⟨s, hs, ea⟩ : ∃ s : Nat, s < 2 ∧ a = s := ⟨a.toNat, by omega, by omega⟩
      subst ea
      have n0 := ns_bd hX.1 (hX.2.1 s hs)
      rw [if_neg (by rw [i3_l0, i3_lt h3 h4 (by omega) (by omega)]; exact e2), xg_in _ (by omega) (by omega) (by omega), i3_xnN (by omega), hX.2.2.2.2.2.2.1 s hs, if_pos]
      rw [i3_le (by omega) (by omega) h3 h4]
      apply Classical.byContradiction
      intro q
      exact h ⟨s, b.toNat, rfl, by omega, hs, by omega⟩
  · rw [if_neg e, if_pos rfl]
theorem isSplit4_yes {K : Nat} {W : Nat → Int} {t : Int} {fo : Nat → Nat} {fields ties : Int32} {worth forces many : Nat → Int32} {codes : Nat → Nat → Int32} (hX : SX K W t fo fields ties worth forces many codes) {s i : Nat} (hs : s < 2) (hi : i < ns K (fo s)) : F4_isSplit (i3 s) (i3 i) many = some 1 := by
  have n0 := ns_bd hX.1 (hX.2.1 s hs)
  unfold F4_isSplit
  rw [isSide9 s (by omega) (by omega)]
  simp only [Option.bind_some]
  rw [if_pos (show (s : Int) = 0 ∨ (s : Int) = 1 by omega), if_neg (by decide), if_neg (by rw [i3_l0, i3_lt (by omega) (by omega) (by omega) (by omega)]; omega), xg_in _ (by omega) (by omega) (by omega), i3_xnN (by omega), hX.2.2.2.2.2.2.1 s hs, if_neg (by rw [i3_le (by omega) (by omega) (by omega) (by omega)]; omega)]
theorem isSplit10_no {K : Nat} {W : Nat → Int} {t : Int} {fo : Nat → Nat} {told many eights gains : Nat → Int32} (hM : SM K W t fo told many eights gains) {a b : Int} (h1 : -2147483648 ≤ a) (h2 : a < 2147483648) (h3 : -2147483648 ≤ b) (h4 : b < 2147483648) (h : ¬ isp K fo a b) : F10_isSplit (i3 a) (i3 b) many = some 0 := by
  unfold F10_isSplit
  rw [isSide10 a h1 h2]
  simp only [Option.bind_some]
  by_cases e : a = 0 ∨ a = 1
  · rw [if_pos e, if_neg (by decide)]
    obtain ⟨s, hs, ea⟩ : ∃ s : Nat, s < 2 ∧ a = s := ⟨a.toNat, by omega, by omega⟩
    subst ea
    have n0 := ns_bd hM.1 (hM.2.1 s hs)
    rw [xg_in _ (by omega) (by omega) (by omega), i3_xnN (by omega), hM.2.2.2.2.2.2.1 s hs, i3_l1, i3_sub, i3_l0, within10 h3 h4 (by omega) (by omega) (by omega) (by omega)]
    simp only [Option.bind_some]
    rw [if_neg (show ¬ ((0 : Int) ≤ b ∧ b ≤ ((ns K (fo s) : Nat) : Int) - 1) from fun q => h ⟨s, b.toNat, rfl, by omega, hs, by omega⟩)]
    rfl
  · rw [if_neg e, if_pos rfl]
theorem isSplit10_yes {K : Nat} {W : Nat → Int} {t : Int} {fo : Nat → Nat} {told many eights gains : Nat → Int32} (hM : SM K W t fo told many eights gains) {s i : Nat} (hs : s < 2) (hi : i < ns K (fo s)) : F10_isSplit (i3 s) (i3 i) many = some 1 := by
  have n0 := ns_bd hM.1 (hM.2.1 s hs)
  unfold F10_isSplit
  rw [isSide10 s (by omega) (by omega)]
  simp only [Option.bind_some]
  rw [if_pos (show (s : Int) = 0 ∨ (s : Int) = 1 by omega), if_neg (by decide), xg_in _ (by omega) (by omega) (by omega), i3_xnN (by omega), hM.2.2.2.2.2.2.1 s hs, i3_l1, i3_sub, i3_l0, within10 (by omega) (by omega) (by omega) (by omega) (by omega) (by omega)]
  simp only [Option.bind_some]
  rw [if_pos (show (0 : Int) ≤ (i : Int) ∧ (i : Int) ≤ ((ns K (fo s) : Nat) : Int) - 1 by omega)]
  rfl
