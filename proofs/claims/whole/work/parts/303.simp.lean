/-! ===== the simplex method in whole numbers ===== -/
theorem sm_append (a b : Nat) (f : Nat → Int) : sm (a + b) f = sm a f + sm b (fun k => f (a + k)) := by
  induction b with
  | zero => show sm a f = sm a f + 0; omega
  | succ b ih =>
    show sm (a + b) f + f (a + b) = sm a f + (sm b (fun k => f (a + k)) + f (a + b))
    rw [ih]; omega
theorem sm_if_eq {n r : Nat} {a : Int} (hr : r < n) : sm n (fun k => if k = r then a else 0) = a := by
  rw [sm_one hr (fun k _ hk => if_neg hk)]; exact if_pos rfl
theorem sm_if_eq' {n r : Nat} {a : Int} (hr : r < n) : sm n (fun k => if r = k then a else 0) = a := by
  rw [sm_one hr (fun k _ hk => if_neg (fun q => hk q.symm))]; exact if_pos rfl
theorem sm_upd {n r : Nat} (f : Nat → Int) (a : Int) (hr : r < n) : sm n (fun k => if k = r then a else f k) = sm n f + a - f r := by
  have e : sm n (fun k => if k = r then a else f k) = sm n (fun k => f k + (if k = r then a - f r else 0)) := sm_congr (fun k _ => by
    by_cases h : k = r
    · subst h; rw [if_pos rfl, if_pos rfl]; omega
    · rw [if_neg h, if_neg h]; omega)
  rw [e, sm_add, sm_if_eq hr]; omega
/-- rows of numbers by the first that is not 0 -/
def Lnn : Nat → (Nat → Int) → Prop
  | 0, _ => True
  | L + 1, f => 0 < f 0 ∨ (f 0 = 0 ∧ Lnn L (fun k => f (k + 1)))
def Lps : Nat → (Nat → Int) → Prop
  | 0, _ => False
  | L + 1, f => 0 < f 0 ∨ (f 0 = 0 ∧ Lps L (fun k => f (k + 1)))
theorem Lnn_of_Lps : ∀ {L : Nat} {f : Nat → Int}, Lps L f → Lnn L f
  | 0, _, h => h.elim
  | L + 1, f, h => h.elim Or.inl (fun q => Or.inr ⟨q.1, Lnn_of_Lps q.2⟩)
theorem Lnn_congr : ∀ {L : Nat} {f g : Nat → Int}, (∀ k, k < L → f k = g k) → Lnn L f → Lnn L g
  | 0, _, _, _, _ => trivial
  | L + 1, f, g, e, h => by
    have e0 := e 0 (by omega)
    rcases h with h | ⟨h1, h2⟩
    · exact Or.inl (by omega)
    · exact Or.inr ⟨by omega, Lnn_congr (fun k hk => e (k + 1) (by omega)) h2⟩
theorem Lps_congr : ∀ {L : Nat} {f g : Nat → Int}, (∀ k, k < L → f k = g k) → Lps L f → Lps L g
  | 0, _, _, _, h => h.elim
  | L + 1, f, g, e, h => by
    have e0 := e 0 (by omega)
    rcases h with h | ⟨h1, h2⟩
    · exact Or.inl (by omega)
    · exact Or.inr ⟨by omega, Lps_congr (fun k hk => e (k + 1) (by omega)) h2⟩
theorem Lnn_zero : ∀ {L : Nat} {f : Nat → Int}, (∀ k, k < L → f k = 0) → Lnn L f
  | 0, _, _ => trivial
  | L + 1, f, h => Or.inr ⟨h 0 (by omega), Lnn_zero (fun k hk => h (k + 1) (by omega))⟩
theorem Lnn_add : ∀ {L : Nat} {f g : Nat → Int}, Lnn L f → Lnn L g → Lnn L (fun k => f k + g k)
  | 0, _, _, _, _ => trivial
  | L + 1, f, g, h1, h2 => by
    rcases h1 with h1 | ⟨h1, h1'⟩ <;> rcases h2 with h2 | ⟨h2, h2'⟩
    · exact Or.inl (by show 0 < f 0 + g 0; omega)
    · exact Or.inl (by show 0 < f 0 + g 0; omega)
    · exact Or.inl (by show 0 < f 0 + g 0; omega)
    · exact Or.inr ⟨by show f 0 + g 0 = 0; omega, Lnn_add h1' h2'⟩
theorem Lps_add : ∀ {L : Nat} {f g : Nat → Int}, Lps L f → Lnn L g → Lps L (fun k => f k + g k)
  | 0, _, _, h, _ => h.elim
  | L + 1, f, g, h1, h2 => by
    rcases h1 with h1 | ⟨h1, h1'⟩ <;> rcases h2 with h2 | ⟨h2, h2'⟩
    · exact Or.inl (by show 0 < f 0 + g 0; omega)
    · exact Or.inl (by show 0 < f 0 + g 0; omega)
    · exact Or.inl (by show 0 < f 0 + g 0; omega)
    · exact Or.inr ⟨by show f 0 + g 0 = 0; omega, Lps_add h1' h2'⟩
theorem Lnn_mul : ∀ {L : Nat} {f : Nat → Int} {a : Int}, 0 ≤ a → Lnn L f → Lnn L (fun k => a * f k)
  | 0, _, _, _, _ => trivial
  | L + 1, f, a, ha, h => by
    by_cases e : a = 0
    · exact Lnn_zero (fun k _ => by rw [e]; simp)
    · rcases h with h | ⟨h1, h2⟩
      · exact Or.inl (Int.mul_pos (by omega) h)
      · exact Or.inr ⟨by show a * f 0 = 0; rw [h1]; simp, Lnn_mul ha h2⟩
theorem Lps_mul : ∀ {L : Nat} {f : Nat → Int} {a : Int}, 0 < a → Lps L f → Lps L (fun k => a * f k)
  | 0, _, _, _, h => h.elim
  | L + 1, f, a, ha, h => by
    rcases h with h | ⟨h1, h2⟩
    · exact Or.inl (Int.mul_pos ha h)
    · exact Or.inr ⟨by show a * f 0 = 0; rw [h1]; simp, Lps_mul ha h2⟩
theorem Lnn_of_mul : ∀ {L : Nat} {f : Nat → Int} {a : Int}, 0 < a → Lnn L (fun k => a * f k) → Lnn L f
  | 0, _, _, _, _ => trivial
  | L + 1, f, a, ha, h => by
    rcases h with h | ⟨h1, h2⟩
    · exact Or.inl (Int.pos_of_mul_pos_right (a := a) h ha)
    · refine Or.inr ⟨?_, Lnn_of_mul ha h2⟩
      rcases Int.mul_eq_zero.mp h1 with q | q
      · omega
      · exact q
theorem Lps_of_mul : ∀ {L : Nat} {f : Nat → Int} {a : Int}, 0 < a → Lps L (fun k => a * f k) → Lps L f
  | 0, _, _, _, h => h.elim
  | L + 1, f, a, ha, h => by
    rcases h with h | ⟨h1, h2⟩
    · exact Or.inl (Int.pos_of_mul_pos_right (a := a) h ha)
    · refine Or.inr ⟨?_, Lps_of_mul ha h2⟩
      rcases Int.mul_eq_zero.mp h1 with q | q
      · omega
      · exact q
theorem Lnn_tot : ∀ {L : Nat} {f : Nat → Int}, Lnn L f ∨ Lps L (fun k => - f k)
  | 0, _ => Or.inl trivial
  | L + 1, f => by
    by_cases h1 : 0 < f 0
    · exact Or.inl (Or.inl h1)
    · by_cases h2 : f 0 = 0
      · rcases Lnn_tot (L := L) (f := fun k => f (k + 1)) with q | q
        · exact Or.inl (Or.inr ⟨h2, q⟩)
        · exact Or.inr (Or.inr ⟨by show - f 0 = 0; omega, q⟩)
      · exact Or.inr (Or.inl (by show 0 < - f 0; omega))
theorem Lps_not_Lnn : ∀ {L : Nat} {f : Nat → Int}, Lps L (fun k => - f k) → ¬ Lnn L f
  | 0, _, h, _ => h.elim
  | L + 1, f, h, h' => by
    rcases h with h | ⟨h1, h2⟩ <;> rcases h' with q | ⟨q1, q2⟩
    · have : 0 < - f 0 := h
      omega
    · have : 0 < - f 0 := h
      omega
    · have : - f 0 = 0 := h1
      omega
    · exact Lps_not_Lnn h2 q2
theorem Lnn_sm {L : Nat} (N : Nat) (a : Nat → Int) (F : Nat → Nat → Int) (h : ∀ j, j < N → Lnn L (fun k => a j * F j k)) : Lnn L (fun k => sm N (fun j => a j * F j k)) := by
  induction N with
  | zero => exact Lnn_zero (fun _ _ => rfl)
  | succ N ih => exact Lnn_add (ih (fun j hj => h j (by omega))) (h N (by omega))
/-- the vectors of the columns, of the goal, of what is wanted; g: what the row's own side loses -/
def cv (m n : Nat) (g : Nat → Nat → Int) (v : Nat) : Nat → Int := fun q => if v < n then (if q < m then - g q v else -1) else (if q + n = v then 1 else 0)
def zc (m : Nat) : Nat → Int := fun q => if q < m then 9 else 1
def rv (m : Nat) : Nat → Int := fun q => if q < m then 1 else 0
def Bs (m n : Nat) (g : Nat → Nat → Int) (rn : Nat → Nat) : Nat → Nat → Int := fun i => if i < m then cv m n g (rn i) else zc m
theorem Bs_lt {m n : Nat} {g : Nat → Nat → Int} {rn : Nat → Nat} {i : Nat} (h : i < m) : Bs m n g rn i = cv m n g (rn i) := if_pos h
theorem Bs_m (m n : Nat) (g : Nat → Nat → Int) (rn : Nat → Nat) : Bs m n g rn m = zc m := if_neg (by omega)
/-- a state: table, scale, names of rows, names of columns -/
abbrev SS : Type := (Nat → Nat → Int) × Int × (Nat → Nat) × (Nat → Nat)
def upn (f : Nat → Nat) (r v : Nat) : Nat → Nat := fun i => if i = r then v else f i
/-- names: rows and columns have each once -/
def SN (m n : Nat) (s : SS) : Prop := ∀ f : Nat → Int, sm m (fun i => f (s.2.2.1 i)) + sm n (fun j => f (s.2.2.2 j)) = sm (n + m) f
def SI (m n : Nat) (g : Nat → Nat → Int) (s : SS) : Prop :=
  SN m n s ∧ CR (m + 1) (Bs m n g s.2.2.1) ∧ s.2.1 = dt (m + 1) (Bs m n g s.2.2.1) ∧ 0 < s.2.1 ∧
  (∀ i j, i < m + 1 → j < n → s.1 i j = dt (m + 1) (st (Bs m n g s.2.2.1) i (cv m n g (s.2.2.2 j)))) ∧
  (∀ i, i < m + 1 → s.1 i n = dt (m + 1) (st (Bs m n g s.2.2.1) i (rv m))) ∧
  (∀ i, i < m → 0 ≤ s.1 i n)
/-- the start -/
def S0 (m n : Nat) (g : Nat → Nat → Int) : SS := (fun i j => if i < m then (if j < n then 9 - g i j else 1) else (if j < n then -1 else 0), 1, fun i => n + i, fun j => j)
/-- an exchange; the division leaves no rest -/
def exs (m n : Nat) (s : SS) (r c : Nat) : SS :=
  (fun i j => if i = r then (if j = c then s.2.1 else s.1 r j) else (if j = c then - s.1 i c else (s.1 i j * s.1 r c - s.1 i c * s.1 r j).tdiv s.2.1), s.1 r c, upn s.2.2.1 r (s.2.2.2 c), upn s.2.2.2 c (s.2.2.1 r))
theorem SN_row {m n : Nat} {s : SS} (h : SN m n s) {i : Nat} (hi : i < m) : s.2.2.1 i < n + m := by
  apply Classical.byContradiction
  intro q
  have h1 := h (fun v => if v = s.2.2.1 i then 1 else 0)
  have h2 : sm (n + m) (fun v => if v = s.2.2.1 i then (1 : Int) else 0) = 0 := sm_zero (fun k hk => if_neg (by omega))
  have h3 := sm_ge_one (n := m) (r := i) (f := fun i' => if s.2.2.1 i' = s.2.2.1 i then (1 : Int) else 0) hi (fun k _ => by split <;> decide)
  have h4 := sm_nonneg (n := n) (f := fun j => if s.2.2.2 j = s.2.2.1 i then (1 : Int) else 0) (fun k _ => by split <;> decide)
  simp only [if_true] at h3
  rw [h2] at h1
  omega
theorem SN_col {m n : Nat} {s : SS} (h : SN m n s) {i : Nat} (hi : i < n) : s.2.2.2 i < n + m := by
  apply Classical.byContradiction
  intro q
  have h1 := h (fun v => if v = s.2.2.2 i then 1 else 0)
  have h2 : sm (n + m) (fun v => if v = s.2.2.2 i then (1 : Int) else 0) = 0 := sm_zero (fun k hk => if_neg (by omega))
  have h3 := sm_ge_one (n := n) (r := i) (f := fun i' => if s.2.2.2 i' = s.2.2.2 i then (1 : Int) else 0) hi (fun k _ => by split <;> decide)
  have h4 := sm_nonneg (n := m) (f := fun j => if s.2.2.1 j = s.2.2.2 i then (1 : Int) else 0) (fun k _ => by split <;> decide)
  simp only [if_true] at h3
  rw [h2] at h1
  omega
theorem sm_ge_two {n r s : Nat} {f : Nat → Int} (hr : r < n) (hs : s < n) (hrs : r ≠ s) (h : ∀ k, k < n → 0 ≤ f k) : f r + f s ≤ sm n f := by
  have e := sm_upd (n := n) f 0 hs
  have h1 := sm_ge_one (n := n) (r := r) (f := fun k => if k = s then 0 else f k) hr (fun k hk => by split; exact Int.le_refl 0; exact h k hk)
  simp only [if_neg hrs] at h1
  omega
theorem SN_rr {m n : Nat} {s : SS} (h : SN m n s) {i j : Nat} (hi : i < m) (hj : j < m) (hne : i ≠ j) : s.2.2.1 i ≠ s.2.2.1 j := by
  intro e
  have h1 := h (fun v => if v = s.2.2.1 i then 1 else 0)
  rw [sm_if_eq (SN_row h hi)] at h1
  have h3 := sm_ge_two (n := m) (r := i) (s := j) (f := fun i' => if s.2.2.1 i' = s.2.2.1 i then (1 : Int) else 0) hi hj hne (fun k _ => by split <;> decide)
  have h4 := sm_nonneg (n := n) (f := fun j => if s.2.2.2 j = s.2.2.1 i then (1 : Int) else 0) (fun k _ => by split <;> decide)
  simp only [if_true, e.symm] at h3
  omega
theorem SN_cc {m n : Nat} {s : SS} (h : SN m n s) {i j : Nat} (hi : i < n) (hj : j < n) (hne : i ≠ j) : s.2.2.2 i ≠ s.2.2.2 j := by
  intro e
  have h1 := h (fun v => if v = s.2.2.2 i then 1 else 0)
  rw [sm_if_eq (SN_col h hi)] at h1
  have h3 := sm_ge_two (n := n) (r := i) (s := j) (f := fun i' => if s.2.2.2 i' = s.2.2.2 i then (1 : Int) else 0) hi hj hne (fun k _ => by split <;> decide)
  have h4 := sm_nonneg (n := m) (f := fun j => if s.2.2.1 j = s.2.2.2 i then (1 : Int) else 0) (fun k _ => by split <;> decide)
  simp only [if_true, e.symm] at h3
  omega
theorem SN_rc {m n : Nat} {s : SS} (h : SN m n s) {i j : Nat} (hi : i < m) (hj : j < n) : s.2.2.1 i ≠ s.2.2.2 j := by
  intro e
  have h1 := h (fun v => if v = s.2.2.1 i then 1 else 0)
  rw [sm_if_eq (SN_row h hi)] at h1
  have h3 := sm_ge_one (n := m) (r := i) (f := fun i' => if s.2.2.1 i' = s.2.2.1 i then (1 : Int) else 0) hi (fun k _ => by split <;> decide)
  have h4 := sm_ge_one (n := n) (r := j) (f := fun j => if s.2.2.2 j = s.2.2.1 i then (1 : Int) else 0) hj (fun k _ => by split <;> decide)
  simp only [if_true, e.symm] at h3 h4
  omega
theorem SN_all {m n : Nat} {s : SS} (h : SN m n s) {v : Nat} (hv : v < n + m) : (∃ i, i < m ∧ s.2.2.1 i = v) ∨ (∃ j, j < n ∧ s.2.2.2 j = v) := by
  apply Classical.byContradiction
  intro q
  have h1 := h (fun w => if w = v then 1 else 0)
  rw [sm_if_eq hv, sm_zero (n := m) (fun k hk => if_neg (fun e => q (Or.inl ⟨k, hk, e⟩))), sm_zero (n := n) (fun k hk => if_neg (fun e => q (Or.inr ⟨k, hk, e⟩)))] at h1
  omega
theorem SN_ex {m n : Nat} {s : SS} (h : SN m n s) {r c : Nat} (hr : r < m) (hc : c < n) : SN m n (exs m n s r c) := by
  intro f
  have e1 : sm m (fun i => f (upn s.2.2.1 r (s.2.2.2 c) i)) = sm m (fun i => if i = r then f (s.2.2.2 c) else f (s.2.2.1 i)) := sm_congr (fun k _ => by
    unfold upn; split <;> rfl)
  have e2 : sm n (fun i => f (upn s.2.2.2 c (s.2.2.1 r) i)) = sm n (fun i => if i = c then f (s.2.2.1 r) else f (s.2.2.2 i)) := sm_congr (fun k _ => by
    unfold upn; split <;> rfl)
  show sm m (fun i => f (upn s.2.2.1 r (s.2.2.2 c) i)) + sm n (fun i => f (upn s.2.2.2 c (s.2.2.1 r) i)) = sm (n + m) f
  rw [e1, e2, sm_upd (fun i => f (s.2.2.1 i)) _ hr, sm_upd (fun i => f (s.2.2.2 i)) _ hc, ← h f]
  omega
theorem Bs_ex (m n : Nat) (g : Nat → Nat → Int) (rn : Nat → Nat) {r v : Nat} (hr : r < m) : Bs m n g (upn rn r v) = st (Bs m n g rn) r (cv m n g v) := by
  funext i
  unfold Bs st upn
  by_cases h1 : i = r
  · subst h1; simp [hr]
  · simp [h1]
theorem SI_ex {m n : Nat} {g : Nat → Nat → Int} {s : SS} (h : SI m n g s) {r c : Nat} (hr : r < m) (hc : c < n) (hp : 0 < s.1 r c) (hrat : ∀ i, i < m → 0 < s.1 i c → s.1 r n * s.1 i c ≤ s.1 i n * s.1 r c) :
    SI m n g (exs m n s r c) ∧ (∀ i j, i < m + 1 → j < n + 1 → i ≠ r → j ≠ c → s.2.1 * (exs m n s r c).1 i j = s.1 i j * s.1 r c - s.1 i c * s.1 r j) := by
  obtain ⟨hN, hC, hD, hD0, hT, hR, hF⟩ := h
  have hB : Bs m n g (exs m n s r c).2.2.1 = st (Bs m n g s.2.2.1) r (cv m n g (s.2.2.2 c)) := Bs_ex m n g s.2.2.1 hr
  have hDne : dt (m + 1) (Bs m n g s.2.2.1) ≠ 0 := by rw [← hD]; omega
  have hprc : dt (m + 1) (st (Bs m n g s.2.2.1) r (cv m n g (s.2.2.2 c))) = s.1 r c := (hT r c (by omega) hc).symm
  -- the rest of an entry, whatever vector it is of
  have hgen : ∀ (i : Nat) (w : Nat → Int) (a b : Int), i < m + 1 → i ≠ r → dt (m + 1) (st (Bs m n g s.2.2.1) i w) = a → dt (m + 1) (st (Bs m n g s.2.2.1) r w) = b → s.2.1 * dt (m + 1) (st (st (Bs m n g s.2.2.1) r (cv m n g (s.2.2.2 c))) i w) = a * s.1 r c - s.1 i c * b := by
    intro i w a b hi hir ha hb
    have := dt_ex hC (show r < m + 1 by omega) hi (fun q => hir q.symm) (cv m n g (s.2.2.2 c)) w
    rw [← hD, hprc, ha, hb, ← hT i c hi hc] at this
    rw [this]; grind
  have hdiv : ∀ (X Y : Int), s.2.1 * X = Y → Y.tdiv s.2.1 = X := fun X Y e => by
    rw [← e, Int.mul_tdiv_cancel_left _ (by omega)]
  have hT' : ∀ i j, i < m + 1 → j < n → (exs m n s r c).1 i j = dt (m + 1) (st (Bs m n g (exs m n s r c).2.2.1) i (cv m n g ((exs m n s r c).2.2.2 j))) := by
    intro i j hi hj
    rw [hB]
    by_cases h1 : i = r
    · subst h1
      by_cases h2 : j = c
      · subst h2
        have e1 : (exs m n s i j).1 i j = s.2.1 := by simp [exs]
        have e2 : (exs m n s i j).2.2.2 j = s.2.2.1 i := by simp [exs, upn]
        rw [e1, e2, st_st, ← Bs_lt (g := g) hr, st_id, hD]
      · have e1 : (exs m n s i c).1 i j = s.1 i j := by simp [exs, h2]
        have e2 : (exs m n s i c).2.2.2 j = s.2.2.2 j := by simp [exs, upn, h2]
        rw [e1, e2, st_st, hT i j hi hj]
    · by_cases h2 : j = c
      · subst h2
        have e1 : (exs m n s r j).1 i j = - s.1 i j := by simp [exs, h1]
        have e2 : (exs m n s r j).2.2.2 j = s.2.2.1 r := by simp [exs, upn]
        rw [e1, e2, ← Bs_lt (g := g) hr, dt_swap (Bs m n g s.2.2.1) (by omega) hi (fun q => h1 q.symm), st_id, hT i j hi hj]
      · have e1 : (exs m n s r c).1 i j = (s.1 i j * s.1 r c - s.1 i c * s.1 r j).tdiv s.2.1 := by simp [exs, h1, h2]
        have e2 : (exs m n s r c).2.2.2 j = s.2.2.2 j := by simp [exs, upn, h2]
        rw [e1, e2]
        exact hdiv _ _ (hgen i _ _ _ hi h1 (hT i j hi hj).symm (hT r j (by omega) hj).symm)
  have hcn : ¬ n = c := by omega
  have hR' : ∀ i, i < m + 1 → (exs m n s r c).1 i n = dt (m + 1) (st (Bs m n g (exs m n s r c).2.2.1) i (rv m)) := by
    intro i hi
    rw [hB]
    by_cases h1 : i = r
    · subst h1
      have e1 : (exs m n s i c).1 i n = s.1 i n := by simp [exs, hcn]
      rw [e1, st_st, hR i hi]
    · have e1 : (exs m n s r c).1 i n = (s.1 i n * s.1 r c - s.1 i c * s.1 r n).tdiv s.2.1 := by simp [exs, h1, hcn]
      rw [e1]
      exact hdiv _ _ (hgen i _ _ _ hi h1 (hR i hi).symm (hR r (by omega)).symm)
  have hmul : ∀ i j, i < m + 1 → j < n + 1 → i ≠ r → j ≠ c → s.2.1 * (exs m n s r c).1 i j = s.1 i j * s.1 r c - s.1 i c * s.1 r j := by
    intro i j hi hj h1 h2
    by_cases hjn : j = n
    · subst hjn
      rw [hR' i hi, hB]
      exact hgen i _ _ _ hi h1 (hR i hi).symm (hR r (by omega)).symm
    · have e2 : (exs m n s r c).2.2.2 j = s.2.2.2 j := by simp [exs, upn, h2]
      rw [hT' i j hi (by omega), hB, e2]
      exact hgen i _ _ _ hi h1 (hT i j hi (by omega)).symm (hT r j (by omega) (by omega)).symm
  refine ⟨⟨SN_ex hN hr hc, ?_, ?_, hp, hT', hR', ?_⟩, hmul⟩
  · rw [hB]; exact CR_ex hC hDne (by omega) _
  · rw [hB, hprc]; rfl
  · intro i hi
    by_cases h1 : i = r
    · subst h1
      have e1 : (exs m n s i c).1 i n = s.1 i n := by simp [exs, hcn]
      rw [e1]; exact hF i hi
    · have h2 := hmul i n (by omega) (by omega) h1 (by omega)
      have h3 : 0 ≤ s.1 i n * s.1 r c - s.1 i c * s.1 r n := by
        by_cases h4 : 0 < s.1 i c
        · have := hrat i hi h4
          have e : s.1 i c * s.1 r n = s.1 r n * s.1 i c := Int.mul_comm _ _
          omega
        · have h5 := Int.mul_nonneg (hF i hi) (Int.le_of_lt hp)
          have h6 := Int.mul_nonneg (show 0 ≤ - s.1 i c by omega) (hF r hr)
          have e : - s.1 i c * s.1 r n = - (s.1 i c * s.1 r n) := Int.neg_mul _ _
          omega
      rw [← h2] at h3
      exact Int.nonneg_of_mul_nonneg_right h3 hD0
