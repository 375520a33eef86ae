/-! ===== so the method ends ===== -/
theorem sk_mono {k a b : Nat} (h : a < b) : sk k a < sk k b := by unfold sk; split <;> split <;> omega
theorem pig {α : Type} : ∀ (l : List α) (N : Nat) (f : Nat → α), (∀ k, k < N → f k ∈ l) → l.length < N → ∃ a b, a < b ∧ b < N ∧ f a = f b
  | [], N, f, h, hl => absurd (h 0 (by simpa using hl)) (List.not_mem_nil)
  | x :: l, N, f, h, hl => by
    have hl' : l.length + 1 < N := hl
    by_cases hx : ∃ k, k < N ∧ f k = x
    · obtain ⟨k0, hk0, e0⟩ := hx
      by_cases h2 : ∃ k, k < N ∧ k ≠ k0 ∧ f k = x
      · obtain ⟨k, hk, hne, e⟩ := h2
        by_cases hlt : k < k0
        · exact ⟨k, k0, hlt, hk0, e.trans e0.symm⟩
        · exact ⟨k0, k, by omega, hk, e0.trans e.symm⟩
      · obtain ⟨a, b, hab, hb, e⟩ := pig l (N - 1) (fun k => f (sk k0 k)) (fun k hk => by
          have h3 : sk k0 k < N := by have := sk_lt (k := k0) hk; omega
          rcases List.mem_cons.mp (h _ h3) with q | q
          · exact absurd ⟨sk k0 k, h3, sk_ne k0 k, q⟩ h2
          · exact q) (by omega)
        exact ⟨sk k0 a, sk k0 b, sk_mono hab, by have := sk_lt (k := k0) hb; omega, e⟩
    · obtain ⟨a, b, hab, hb, e⟩ := pig l N f (fun k hk => by
        rcases List.mem_cons.mp (h k hk) with q | q
        · exact absurd ⟨k, hk, q⟩ hx
        · exact q) (by omega)
      exact ⟨a, b, hab, hb, e⟩
def vcs : Nat → Nat → List (List Bool)
  | 0, 0 => [[]]
  | 0, _ + 1 => []
  | L + 1, 0 => (vcs L 0).map (fun l => false :: l)
  | L + 1, k + 1 => (vcs L (k + 1)).map (fun l => false :: l) ++ (vcs L k).map (fun l => true :: l)
def bn : Nat → Nat → Nat
  | 0, 0 => 1
  | 0, _ + 1 => 0
  | L + 1, 0 => bn L 0
  | L + 1, k + 1 => bn L (k + 1) + bn L k
theorem vcs_len : ∀ L k, (vcs L k).length = bn L k
  | 0, 0 => rfl
  | 0, _ + 1 => rfl
  | L + 1, 0 => by
    show ((vcs L 0).map (fun l => false :: l)).length = bn L 0
    rw [List.length_map, vcs_len L 0]
  | L + 1, k + 1 => by
    show ((vcs L (k + 1)).map (fun l => false :: l) ++ (vcs L k).map (fun l => true :: l)).length = bn L (k + 1) + bn L k
    rw [List.length_append, List.length_map, List.length_map, vcs_len L (k + 1), vcs_len L k]
def cnt : List Bool → Nat
  | [] => 0
  | b :: l => (if b then 1 else 0) + cnt l
theorem vcs_mem : ∀ l : List Bool, l ∈ vcs l.length (cnt l)
  | [] => List.mem_singleton.mpr rfl
  | false :: l => by
    have h := vcs_mem l
    show false :: l ∈ vcs (l.length + 1) (0 + cnt l)
    rw [Nat.zero_add]
    generalize cnt l = k at h ⊢
    cases k with
    | zero => exact List.mem_map.mpr ⟨l, h, rfl⟩
    | succ k => exact List.mem_append.mpr (Or.inl (List.mem_map.mpr ⟨l, h, rfl⟩))
  | true :: l => by
    have h := vcs_mem l
    show true :: l ∈ vcs (l.length + 1) (1 + cnt l)
    rw [Nat.add_comm 1]
    exact List.mem_append.mpr (Or.inr (List.mem_map.mpr ⟨l, h, rfl⟩))
theorem bn_le : (List.range 7).all (fun m => (List.range 7).all (fun n => decide (bn (n + m) m ≤ 924))) = true := by decide +kernel
/-- the names of the rows as a row of yes and no -/
def bb (m : Nat) (s : SS) (v : Nat) : Bool := (List.range m).any (fun i => s.2.2.1 i == v)
theorem bb_iff {m : Nat} {s : SS} {v : Nat} : bb m s v = true ↔ bas m s v := by
  unfold bb bas
  rw [List.any_eq_true]
  constructor
  · rintro ⟨i, hi, e⟩
    exact ⟨i, List.mem_range.mp hi, by simpa using e⟩
  · rintro ⟨i, hi, e⟩
    exact ⟨i, List.mem_range.mpr hi, by simpa using e⟩
def bl (N : Nat) (p : Nat → Bool) : List Bool := match N with
  | 0 => []
  | N + 1 => p N :: bl N p
theorem bl_len (N : Nat) (p : Nat → Bool) : (bl N p).length = N := by
  induction N with
  | zero => rfl
  | succ N ih => show (bl N p).length + 1 = N + 1; rw [ih]
theorem bl_cnt (N : Nat) (p : Nat → Bool) : (cnt (bl N p) : Int) = sm N (fun v => if p v then 1 else 0) := by
  induction N with
  | zero => rfl
  | succ N ih =>
    show (((if p N then 1 else 0) + cnt (bl N p) : Nat) : Int) = sm N (fun v => if p v then 1 else 0) + (if p N then 1 else 0)
    rw [← ih]
    cases p N <;> simp <;> omega
theorem bl_inj {N : Nat} {p p' : Nat → Bool} (h : bl N p = bl N p') : ∀ v, v < N → p v = p' v := by
  induction N with
  | zero => intro v hv; omega
  | succ N ih =>
    intro v hv
    have h1 : p N :: bl N p = p' N :: bl N p' := h
    rw [List.cons.injEq] at h1
    by_cases e : v = N
    · rw [e]; exact h1.1
    · exact ih h1.2 v (by omega)
theorem sm_const (n : Nat) (a : Int) : sm n (fun _ => a) = n * a := by
  induction n with
  | zero => show (0 : Int) = ((0 : Nat) : Int) * a; simp
  | succ n ih =>
    show sm n (fun _ => a) + a = ((n + 1 : Nat) : Int) * a
    rw [ih]; push_cast; grind
theorem bb_cnt {m n : Nat} {s : SS} (h : SN m n s) : cnt (bl (n + m) (bb m s)) = m := by
  have h1 := h (fun v => if bb m s v then 1 else 0)
  have e1 : sm m (fun i => if bb m s (s.2.2.1 i) then (1 : Int) else 0) = sm m (fun _ => 1) := sm_congr (fun i hi => if_pos (bb_iff.mpr ⟨i, hi, rfl⟩))
  have e2 : sm n (fun j => if bb m s (s.2.2.2 j) then (1 : Int) else 0) = 0 := sm_zero (fun j hj => if_neg (fun q => (bas_not h (SN_col h hj)).mpr ⟨j, hj, rfl⟩ (bb_iff.mp q)))
  have e3 := bl_cnt (n + m) (bb m s)
  have e4 := sm_const m 1
  omega
/-- the steps of a rule that chooses: an end comes by 924 -/
def itr (nx : SS → Option (Nat × Nat)) (m n : Nat) (s : SS) : Nat → SS
  | 0 => s
  | k + 1 => match nx (itr nx m n s k) with
    | none => itr nx m n s k
    | some (r, c) => exs m n (itr nx m n s k) r c
theorem itr_ends {m n : Nat} {g : Nat → Nat → Int} {nx : SS → Option (Nat × Nat)} {s : SS} (hn : 0 < n) (hm6 : m < 7) (hn6 : n < 7) (h : SI m n g s) (hnx : ∀ t r c, SI m n g t → nx t = some (r, c) → Ent m n t c ∧ Lea m n t c r) : ∃ k, k < 925 ∧ nx (itr nx m n s k) = none ∧ SI m n g (itr nx m n s k) ∧ ∀ j, j < k → ∃ r c, nx (itr nx m n s j) = some (r, c) ∧ SI m n g (itr nx m n s j) := by
  by_cases hall : ∃ k, k < 925 ∧ nx (itr nx m n s k) = none
  · -- the first such
    obtain ⟨k, hk, e, hmin⟩ : ∃ k, k < 925 ∧ nx (itr nx m n s k) = none ∧ ∀ j, j < k → nx (itr nx m n s j) ≠ none := by
      obtain ⟨k0, hk0, e0⟩ := hall
      have : ∀ d, ∀ k, k ≤ d → k < 925 → nx (itr nx m n s k) = none → ∃ k, k < 925 ∧ nx (itr nx m n s k) = none ∧ ∀ j, j < k → nx (itr nx m n s j) ≠ none := by
        intro d
        induction d with
        | zero => intro k hkd hk e; exact ⟨k, hk, e, fun j hj => by omega⟩
        | succ d ih =>
          intro k hkd hk e
          by_cases h2 : ∃ j, j < k ∧ nx (itr nx m n s j) = none
          · obtain ⟨j, hj, ej⟩ := h2
            exact ih j (by omega) (by omega) ej
          · exact ⟨k, hk, e, fun j hj q => h2 ⟨j, hj, q⟩⟩
      exact this k0 k0 (Nat.le_refl _) hk0 e0
    have hSI : ∀ j, j ≤ k → SI m n g (itr nx m n s j) := by
      intro j
      induction j with
      | zero => exact fun _ => h
      | succ j ih =>
        intro hj
        have h1 := ih (by omega)
        have h2 := hmin j (by omega)
        show SI m n g (match nx (itr nx m n s j) with
          | none => itr nx m n s j
          | some (r, c) => exs m n (itr nx m n s j) r c)
        cases e2 : nx (itr nx m n s j) with
        | none => exact h1
        | some p =>
          obtain ⟨r, c⟩ := p
          obtain ⟨hE, hL⟩ := hnx _ r c h1 e2
          exact (SI_ex h1 hL.1 hE.1 hL.2.1 (Lea_rat hL)).1
    refine ⟨k, hk, e, hSI k (Nat.le_refl _), fun j hj => ?_⟩
    cases e2 : nx (itr nx m n s j) with
    | none => exact absurd e2 (hmin j hj)
    | some p => exact ⟨p.1, p.2, rfl, hSI j (by omega)⟩
  · exfalso
    have hne : ∀ k, k < 925 → ∃ p, nx (itr nx m n s k) = some p := fun k hk => by
      cases e2 : nx (itr nx m n s k) with
      | none => exact absurd ⟨k, hk, e2⟩ hall
      | some p => exact ⟨p, rfl⟩
    have hSI : ∀ j, j < 925 → SI m n g (itr nx m n s j) := by
      intro j
      induction j with
      | zero => exact fun _ => h
      | succ j ih =>
        intro hj
        have h1 := ih (by omega)
        obtain ⟨p, e2⟩ := hne j (by omega)
        obtain ⟨hE, hL⟩ := hnx _ p.1 p.2 h1 e2
        show SI m n g (match nx (itr nx m n s j) with
          | none => itr nx m n s j
          | some (r, c) => exs m n (itr nx m n s j) r c)
        rw [e2]
        exact (SI_ex h1 hL.1 hE.1 hL.2.1 (Lea_rat hL)).1
    have hRun : Run m n (itr nx m n s) (fun k => ((nx (itr nx m n s k)).getD (0, 0)).1) (fun k => ((nx (itr nx m n s k)).getD (0, 0)).2) 924 := by
      intro k hk
      obtain ⟨p, e2⟩ := hne k (by omega)
      obtain ⟨hE, hL⟩ := hnx _ p.1 p.2 (hSI k (by omega)) e2
      have e3 : (nx (itr nx m n s k)).getD (0, 0) = p := by rw [e2]; rfl
      refine ⟨?_, ?_, ?_⟩
      · show Ent m n _ ((nx (itr nx m n s k)).getD (0, 0)).2
        rw [e3]; exact hE
      · show Lea m n _ ((nx (itr nx m n s k)).getD (0, 0)).2 ((nx (itr nx m n s k)).getD (0, 0)).1
        rw [e3]; exact hL
      · show (match nx (itr nx m n s k) with
          | none => itr nx m n s k
          | some (r, c) => exs m n (itr nx m n s k) r c) = exs m n (itr nx m n s k) ((nx (itr nx m n s k)).getD (0, 0)).1 ((nx (itr nx m n s k)).getD (0, 0)).2
        rw [e3, e2]
    obtain ⟨a, b, hab, hb, e⟩ := pig (vcs (n + m) m) 925 (fun k => bl (n + m) (bb m (itr nx m n s k))) (fun k hk => by
      have h1 := vcs_mem (bl (n + m) (bb m (itr nx m n s k)))
      rw [bl_len, bb_cnt (hSI k hk).1] at h1
      exact h1) (by
      rw [vcs_len]
      have h1 := List.all_eq_true.mp bn_le m (List.mem_range.mpr hm6)
      have h2 := List.all_eq_true.mp h1 n (List.mem_range.mpr hn6)
      have h3 := of_decide_eq_true h2
      omega)
    exact no_again hn hRun (fun k hk => hSI k (by omega)) hab (by omega) (fun v hv => by
      rw [← bb_iff, ← bb_iff, bl_inj e v hv])
/-- bounds of a table -/
def bd (m i q : Nat) : Int := if q < m then (if i < m then 8 else 9) else 1
theorem bd_le : (List.range 7).all (fun m => decide (pm (m + 1) (bd m) ≤ 1462763520)) = true := by decide +kernel
theorem cv_bd {m n : Nat} {g : Nat → Nat → Int} (hg : ∀ r c, r < m → c < n → - 8 ≤ g r c ∧ g r c ≤ 8) (i v q : Nat) (hq : q < m + 1) : - bd m i q ≤ cv m n g v q ∧ cv m n g v q ≤ bd m i q := by
  unfold bd cv
  by_cases h1 : v < n
  · by_cases h2 : q < m
    · have := hg q v h2 h1
      simp only [if_pos h1, if_pos h2]
      split <;> omega
    · simp only [if_pos h1, if_neg h2]
      omega
  · simp only [if_neg h1]
    split <;> split <;> (try split) <;> omega
theorem SI_bd {m n : Nat} {g : Nat → Nat → Int} {s : SS} (h : SI m n g s) (hm : m < 7) (hg : ∀ r c, r < m → c < n → - 8 ≤ g r c ∧ g r c ≤ 8) : (∀ i j, i < m + 1 → j < n + 1 → - 1462763520 ≤ s.1 i j ∧ s.1 i j ≤ 1462763520) ∧ s.2.1 ≤ 1462763520 := by
  obtain ⟨hN, hC, hD, hD0, hT, hR, hF⟩ := h
  have hpm : pm (m + 1) (bd m) ≤ 1462763520 := of_decide_eq_true (List.all_eq_true.mp bd_le m (List.mem_range.mpr hm))
  have hB : ∀ i q, i < m + 1 → q < m + 1 → - bd m i q ≤ Bs m n g s.2.2.1 i q ∧ Bs m n g s.2.2.1 i q ≤ bd m i q := fun i q hi hq => by
    by_cases h1 : i < m
    · rw [Bs_lt h1]; exact cv_bd hg i _ q hq
    · have : i = m := by omega
      subst this
      rw [Bs_m]
      unfold zc bd
      by_cases h2 : q < i
      · rw [if_pos h2, if_pos h2, if_neg h1]; omega
      · rw [if_neg h2, if_neg h2]; omega
  have hst : ∀ (i : Nat) (w : Nat → Int), (∀ i q, q < m + 1 → - bd m i q ≤ w q ∧ w q ≤ bd m i q) → - 1462763520 ≤ dt (m + 1) (st (Bs m n g s.2.2.1) i w) ∧ dt (m + 1) (st (Bs m n g s.2.2.1) i w) ≤ 1462763520 := fun i w hw => by
    have := dt_bound (n := m + 1) (M := st (Bs m n g s.2.2.1) i w) (b := bd m) (fun i' q hi' hq => by
      unfold st
      split
      · exact hw i' q hq
      · exact hB i' q hi' hq)
    omega
  refine ⟨fun i j hi hj => ?_, ?_⟩
  · by_cases h1 : j = n
    · subst h1
      rw [hR i hi]
      refine hst i _ (fun i q hq => ?_)
      unfold rv bd
      split
      · split <;> omega
      · omega
    · rw [hT i j hi (by omega)]
      exact hst i _ (fun i q hq => cv_bd hg i _ q hq)
  · have := dt_bound (n := m + 1) (M := Bs m n g s.2.2.1) (b := bd m) hB
    omega
