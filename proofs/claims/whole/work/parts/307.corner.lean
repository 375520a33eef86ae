/-! ===== corners: systems of some rows and some columns ===== -/
theorem CR_congr {n : Nat} {B B' : Nat → Nat → Int} (h : ∀ i, i < n → B i = B' i) (hC : CR n B) : CR n B' := by
  intro u q hq
  have e1 : dt n B' = dt n B := dt_congr (fun i hi q _ => by rw [h i hi])
  rw [e1, hC u q hq]
  refine sm_congr (fun i hi => ?_)
  rw [h i hi, dt_congr (M := st B i u) (M' := st B' i u) (fun j hj q _ => by
    unfold st
    split
    · rfl
    · rw [h j hj])]
theorem CR_swap {n : Nat} {B : Nat → Nat → Int} (hC : CR n B) (hD : dt n B ≠ 0) {r s : Nat} (hr : r < n) (hs : s < n) (hrs : r ≠ s) : CR n (st (st B r (B s)) s (B r)) ∧ dt n (st (st B r (B s)) s (B r)) = - dt n B := by
  have e0 : dt n (st (st B r (B s)) s (B r)) = - dt n B := by
    rw [dt_swap B hr hs hrs (B s) (B r), st_id, st_id]
  refine ⟨?_, e0⟩
  have d1 : dt n (st B r (fun q => B r q + B s q)) = dt n B := by
    rw [dt_add B (B r) (B s) hr, st_id, dt_alt (st B r (B s)) hr hs hrs (by rw [st_self, st_ne _ _ (fun q => hrs q.symm)])]
    omega
  have c1 := CR_ex hC hD hr (fun q => B r q + B s q)
  have c2 := CR_ex c1 (by rw [d1]; exact hD) hs (B r)
  have d2 : dt n (st (st B r (fun q => B r q + B s q)) s (B r)) = - dt n B := by
    rw [st_comm B _ _ hrs, dt_add (st B s (B r)) (B r) (B s) hr, dt_alt (st (st B s (B r)) r (B r)) hr hs hrs (by rw [st_self, st_ne _ _ (fun q => hrs q.symm), st_self]), ← st_comm B _ _ hrs, e0]
    omega
  have c3 := CR_ex c2 (by rw [d2]; omega) hr (B s)
  rw [st_comm (st B r _) _ _ (fun q => hrs q.symm), st_st] at c3
  exact c3
/-- either Cramer's rule, or a vector that the others give -/
theorem elim (n : Nat) (W : Nat → Nat → Int) : ∀ k, k ≤ n → (∃ B, CR n B ∧ dt n B ≠ 0 ∧ ∀ i, i < k → B i = W i) ∨ (∃ (c : Nat → Int) (r : Nat), r < n ∧ c r ≠ 0 ∧ ∀ q, q < n → sm n (fun i => c i * W i q) = 0) := by
  intro k
  induction k with
  | zero => exact fun _ => Or.inl ⟨un, CR_un n, by rw [dt_un]; decide, fun i hi => by omega⟩
  | succ k ih =>
    intro hk
    rcases ih (by omega) with ⟨B, hC, hD, hB⟩ | h
    · by_cases hex : ∃ i, k ≤ i ∧ i < n ∧ dt n (st B i (W k)) ≠ 0
      · obtain ⟨i, hki, hin, ht⟩ := hex
        left
        have c1 := CR_ex hC hD hin (W k)
        by_cases hik : i = k
        · subst hik
          exact ⟨st B i (W i), c1, ht, fun j hj => by
            by_cases e : j = i
            · rw [e, st_self]
            · rw [st_ne _ _ e]; exact hB j (by omega)⟩
        · obtain ⟨c2, d2⟩ := CR_swap c1 ht hin (show k < n by omega) hik
          refine ⟨_, c2, by rw [d2]; omega, fun j hj => ?_⟩
          by_cases e : j = k
          · rw [e, st_self, st_self]
          · rw [st_ne _ _ e, st_ne _ _ (by omega), st_ne _ _ (by omega)]
            exact hB j (by omega)
      · right
        have hz : ∀ i, k ≤ i → i < n → dt n (st B i (W k)) = 0 := fun i h1 h2 => Classical.byContradiction (fun q => hex ⟨i, h1, h2, q⟩)
        refine ⟨fun i => if i = k then dt n B else if i < k then - dt n (st B i (W k)) else 0, k, by omega, by simp [hD], fun q hq => ?_⟩
        have h1 := hC (W k) q hq
        have e : sm n (fun i => (if i = k then dt n B else if i < k then - dt n (st B i (W k)) else 0) * W i q) = sm n (fun i => (if i = k then dt n B * W k q else 0) - dt n (st B i (W k)) * B i q) := sm_congr (fun i hi => by
          by_cases h2 : i = k
          · subst h2; rw [if_pos rfl, if_pos rfl, hz i (by omega) hi]; simp
          · rw [if_neg h2, if_neg h2]
            by_cases h3 : i < k
            · rw [if_pos h3, hB i h3, Int.neg_mul]; omega
            · rw [if_neg h3, hz i (by omega) hi]; simp)
        rw [e, sm_sub, sm_if_eq (by omega), ← h1]
        omega
    · exact Or.inr h
theorem elim_all (n : Nat) (W : Nat → Nat → Int) : (CR n W ∧ dt n W ≠ 0) ∨ (dt n W = 0 ∧ ∃ (c : Nat → Int) (r : Nat), r < n ∧ c r ≠ 0 ∧ ∀ q, q < n → sm n (fun i => c i * W i q) = 0) := by
  rcases elim n W n (Nat.le_refl n) with ⟨B, hC, hD, hB⟩ | ⟨c, r, hr, hc, h⟩
  · left
    refine ⟨CR_congr hB hC, ?_⟩
    rw [← dt_congr (M := B) (M' := W) (fun i hi q _ => by rw [hB i hi])]
    exact hD
  · right
    refine ⟨?_, c, r, hr, hc, h⟩
    rcases Int.mul_eq_zero.mp (dt_comb W hr c h) with q | q
    · exact absurd q hc
    · exact q
/-- the system of k rows ii and k columns jj of a game; g j i: what the own i gains against j -/
def sy (k : Nat) (g : Nat → Nat → Int) (ii jj : Nat → Nat) : Nat → Nat → Int := fun c q => if c < k then (if q < k then g (jj q) (ii c) else 1) else (if q < k then -1 else 0)
def ek (k : Nat) : Nat → Int := fun q => if q = k then 1 else 0
/-- what a corner comes to: c-th share (c below k), value (k), all times the determinant -/
def kz (k : Nat) (g : Nat → Nat → Int) (ii jj : Nat → Nat) (c : Nat) : Int := dt (k + 1) (st (sy k g ii jj) c (ek k))
def kd (k : Nat) (g : Nat → Nat → Int) (ii jj : Nat → Nat) : Int := dt (k + 1) (sy k g ii jj)
theorem kz_sum {k : Nat} {g : Nat → Nat → Int} {ii jj : Nat → Nat} (hD : kd k g ii jj ≠ 0) : sm k (kz k g ii jj) = kd k g ii jj ∧ ∀ q, q < k → sm k (fun c => kz k g ii jj c * g (jj q) (ii c)) = kz k g ii jj k := by
  rcases elim_all (k + 1) (sy k g ii jj) with ⟨hC, -⟩ | ⟨h0, -⟩
  · have hrow : ∀ q, q < k + 1 → kd k g ii jj * ek k q = sm k (fun c => kz k g ii jj c * sy k g ii jj c q) + kz k g ii jj k * sy k g ii jj k q := fun q hq => hC (ek k) q hq
    constructor
    · have h1 := hrow k (by omega)
      have e1 : ek k k = 1 := if_pos rfl
      have e2 : sy k g ii jj k k = 0 := by unfold sy; rw [if_neg (by omega), if_neg (by omega)]
      have e3 : sm k (fun c => kz k g ii jj c * sy k g ii jj c k) = sm k (kz k g ii jj) := sm_congr (fun c hc => by
        unfold sy; rw [if_pos hc, if_neg (by omega)]; omega)
      rw [e1, e2, e3] at h1
      omega
    · intro q hq
      have h1 := hrow q (by omega)
      have e1 : ek k q = 0 := if_neg (by omega)
      have e2 : sy k g ii jj k q = -1 := by unfold sy; rw [if_neg (by omega), if_pos hq]
      have e3 : sm k (fun c => kz k g ii jj c * sy k g ii jj c q) = sm k (fun c => kz k g ii jj c * g (jj q) (ii c)) := sm_congr (fun c hc => by
        unfold sy; rw [if_pos hc, if_pos hq])
      rw [e1, e2, e3] at h1
      omega
  · exact absurd h0 hD
/-- names by shares: a point of the class's system -/
def ly (k n : Nat) (g : Nat → Nat → Int) (ii : Nat → Nat) (z : Nat → Int) : Nat → Int := fun v => if v < n then sm k (fun c => if ii c = v then z c else 0) else sm k (fun c => z c * g (v - n) (ii c)) - z k
theorem ly_sum {k n : Nat} {g : Nat → Nat → Int} {ii : Nat → Nat} {z : Nat → Int} (hii : ∀ c, c < k → ii c < n) (f : Nat → Int) : sm n (fun v => f v * ly k n g ii z v) = sm k (fun c => f (ii c) * z c) := by
  have e : sm n (fun v => f v * ly k n g ii z v) = sm n (fun v => sm k (fun c => if ii c = v then f (ii c) * z c else 0)) := sm_congr (fun v hv => by
    unfold ly
    rw [if_pos hv, ← sm_mul]
    exact sm_congr (fun c _ => by
      by_cases h : ii c = v
      · rw [if_pos h, if_pos h, h]
      · rw [if_neg h, if_neg h]; simp))
  rw [e, sm_comm]
  exact sm_congr (fun c hc => sm_if_eq' (hii c hc))
theorem ly_Sol {k m n : Nat} {g : Nat → Nat → Int} {ii : Nat → Nat} {z : Nat → Int} (hii : ∀ c, c < k → ii c < n) : Sol m n g (ly k n g ii z) (9 * sm k z - z k) ∧ sm n (ly k n g ii z) = sm k z := by
  have hs : sm n (ly k n g ii z) = sm k z := by
    have h1 := ly_sum (g := g) (z := z) hii (fun _ => 1)
    rw [sm_congr (n := n) (g := ly k n g ii z) (fun v _ => Int.one_mul _), sm_congr (n := k) (g := z) (fun v _ => Int.one_mul _)] at h1
    exact h1
  refine ⟨fun r hr => ?_, hs⟩
  have e1 : sm n (fun c => (9 - g r c) * ly k n g ii z c) = sm k (fun c => (9 - g r (ii c)) * z c) := ly_sum hii (fun c => 9 - g r c)
  have e2 : sm k (fun c => (9 - g r (ii c)) * z c) = 9 * sm k z - sm k (fun c => z c * g r (ii c)) := by
    rw [← sm_mul, ← sm_sub]
    exact sm_congr (fun c _ => by grind)
  have e3 : ly k n g ii z (n + r) = sm k (fun c => z c * g r (ii c)) - z k := by
    unfold ly
    rw [if_neg (by omega), show n + r - n = r by omega]
  rw [e1, e2, e3]
  omega
/-- the rows and columns that the last table tells -/
def Tells (m n k : Nat) (s : SS) (ii jj : Nat → Nat) : Prop :=
  (∀ c, c < k → ii c < n ∧ bas m s (ii c)) ∧ (∀ c d, c < k → d < k → c ≠ d → ii c ≠ ii d) ∧
  (∀ r, r < m → ¬ bas m s (n + r) → ∃ q, q < k ∧ jj q = r)
theorem Tells_zero {m n k : Nat} {g : Nat → Nat → Int} {s : SS} (h : SI m n g s) {ii jj : Nat → Nat} (hT : Tells m n k s ii jj) {z : Nat → Int} (hz : ∀ q, q < k → sm k (fun c => z c * g (jj q) (ii c)) = z k) : ∀ v, v < n + m → ¬ bas m s v → ly k n g ii z v = 0 := by
  intro v hv hb
  by_cases hvn : v < n
  · unfold ly
    rw [if_pos hvn]
    refine sm_zero (fun c hc => ?_)
    have hne : ¬ ii c = v := fun e => by
      have := (hT.1 c hc).2
      rw [e] at this
      exact hb this
    exact if_neg hne
  · obtain ⟨q, hq, e⟩ := hT.2.2 (v - n) (by omega) (by rw [show n + (v - n) = v by omega]; exact hb)
    unfold ly
    rw [if_neg hvn, ← e, hz q hq]
    omega
theorem Tells_rows {m n k : Nat} {g : Nat → Nat → Int} {s : SS} (h : SI m n g s) {ii jj : Nat → Nat} (hT : Tells m n k s ii jj) {z : Nat → Int} (hz : ∀ q, q < k → sm k (fun c => z c * g (jj q) (ii c)) = z k) : s.2.1 * sm k z = (9 * sm k z - z k) * s.1 m n ∧ (∀ i, i < m → s.2.1 * ly k n g ii z (s.2.2.1 i) = (9 * sm k z - z k) * s.1 i n) ∧ (∀ c, c < k → ly k n g ii z (ii c) = z c) := by
  obtain ⟨hS, hsum⟩ := ly_Sol (m := m) (g := g) (z := z) (fun c hc => (hT.1 c hc).1)
  have hz0 := Tells_zero h hT hz
  have hcol : ∀ j, j < n → ly k n g ii z (s.2.2.2 j) = 0 := fun j hj => hz0 _ (SN_col h.1 hj) ((bas_not h.1 (SN_col h.1 hj)).mpr ⟨j, hj, rfl⟩)
  refine ⟨?_, fun i hi => ?_, fun c hc => ?_⟩
  · have h1 := SI_row h hS (i := m) (by omega)
    rw [if_neg (by omega), hsum, sm_zero (n := n) (fun j hj => by rw [hcol j hj]; simp)] at h1
    omega
  · have h1 := SI_row h hS (i := i) (by omega)
    rw [if_pos hi, sm_zero (n := n) (fun j hj => by rw [hcol j hj]; simp)] at h1
    omega
  · unfold ly
    rw [if_pos (hT.1 c hc).1, sm_one (r := c) hc (fun d hd hne => if_neg (hT.2.1 d c hd hc hne)), if_pos rfl]
theorem Tells_ne {m n k : Nat} {g : Nat → Nat → Int} {s : SS} (h : SI m n g s) (hX : 0 < s.1 m n) {ii jj : Nat → Nat} (hT : Tells m n k s ii jj) : kd k g ii jj ≠ 0 := by
  rcases elim_all (k + 1) (sy k g ii jj) with ⟨-, h1⟩ | ⟨-, z, r, hr, hzr, hz⟩
  · exact h1
  · exfalso
    have hsum : sm k z = 0 := by
      have h1 := hz k (by omega)
      have e2 : sy k g ii jj k k = 0 := by unfold sy; rw [if_neg (by omega), if_neg (by omega)]
      have e3 : sm k (fun c => z c * sy k g ii jj c k) = sm k z := sm_congr (fun c hc => by
        unfold sy; rw [if_pos hc, if_neg (by omega)]; omega)
      have h2 : sm k (fun c => z c * sy k g ii jj c k) + z k * sy k g ii jj k k = 0 := h1
      rw [e2, e3] at h2
      omega
    have hrow : ∀ q, q < k → sm k (fun c => z c * g (jj q) (ii c)) = z k := fun q hq => by
      have h1 := hz q (by omega)
      have e2 : sy k g ii jj k q = -1 := by unfold sy; rw [if_neg (by omega), if_pos hq]
      have e3 : sm k (fun c => z c * sy k g ii jj c q) = sm k (fun c => z c * g (jj q) (ii c)) := sm_congr (fun c hc => by
        unfold sy; rw [if_pos hc, if_pos hq])
      have h2 : sm k (fun c => z c * sy k g ii jj c q) + z k * sy k g ii jj k q = 0 := h1
      rw [e2, e3] at h2
      omega
    obtain ⟨h1, h2, h3⟩ := Tells_rows h hT hrow
    rw [hsum] at h1 h2
    have hzk : z k = 0 := by
      have : (9 * 0 - z k) * s.1 m n = 0 := by rw [← h1]; simp
      rcases Int.mul_eq_zero.mp this with q | q
      · omega
      · omega
    have hD0 := h.2.2.2.1
    have hall : ∀ c, c < k → z c = 0 := fun c hc => by
      obtain ⟨i, hi, e⟩ := (hT.1 c hc).2
      have h4 := h2 i hi
      rw [e, h3 c hc, hzk] at h4
      have h5 : s.2.1 * z c = 0 := by rw [h4]; simp
      rcases Int.mul_eq_zero.mp h5 with q | q
      · omega
      · exact q
    by_cases e : r = k
    · rw [e] at hzr; exact hzr hzk
    · exact hzr (hall r (by omega))
/-- the last table's point is this corner -/
theorem Tells_vals {m n k : Nat} {g : Nat → Nat → Int} {s : SS} (h : SI m n g s) (hX : 0 < s.1 m n) {ii jj : Nat → Nat} (hT : Tells m n k s ii jj) : (∀ c, c < k → kz k g ii jj c * s.1 m n = gl m n s (ii c + 1) * kd k g ii jj) ∧ kz k g ii jj k * s.1 m n = (9 * s.1 m n - s.2.1) * kd k g ii jj ∧ (∀ r, r < m → 0 ≤ (sm k (fun c => kz k g ii jj c * g r (ii c)) - kz k g ii jj k) * kd k g ii jj) := by
  have hne := Tells_ne h hX hT
  obtain ⟨hsum, hrow⟩ := kz_sum hne
  obtain ⟨h1, h2, h3⟩ := Tells_rows h hT hrow
  rw [hsum] at h1 h2
  have hD0 := h.2.2.2.1
  refine ⟨fun c hc => ?_, ?_, fun r hr => ?_⟩
  · obtain ⟨i, hi, e⟩ := (hT.1 c hc).2
    have h4 := h2 i hi
    rw [e, h3 c hc] at h4
    have e5 : gl m n s (ii c + 1) = s.1 i n := by
      show sm m (fun i => if s.2.2.1 i = ii c then s.1 i n else 0) = s.1 i n
      rw [sm_one (r := i) hi (fun i' hi' hne' => if_neg (fun q => SN_rr h.1 hi' hi hne' (q.trans e.symm))), if_pos e]
    rw [e5]
    apply Int.eq_of_mul_eq_mul_left (show s.2.1 ≠ 0 by omega)
    grind
  · grind
  · have e4 : sm k (fun c => kz k g ii jj c * g r (ii c)) - kz k g ii jj k = ly k n g ii (kz k g ii jj) (n + r) := by
      unfold ly
      rw [if_neg (by omega), show n + r - n = r by omega]
    rw [e4]
    by_cases hb : bas m s (n + r)
    · obtain ⟨i, hi, e⟩ := hb
      have h4 := h2 i hi
      rw [e] at h4
      have hF := h.2.2.2.2.2.2 i hi
      -- sc * y = q * F, sc * D = q * X: so y * D has the sign of F * X
      have h5 : s.2.1 * (s.2.1 * (ly k n g ii (kz k g ii jj) (n + r) * kd k g ii jj)) = (9 * kd k g ii jj - kz k g ii jj k) * (9 * kd k g ii jj - kz k g ii jj k) * (s.1 i n * s.1 m n) := by grind
      have h6 : 0 ≤ (9 * kd k g ii jj - kz k g ii jj k) * (9 * kd k g ii jj - kz k g ii jj k) * (s.1 i n * s.1 m n) := Int.mul_nonneg (by
        rcases Int.le_total 0 (9 * kd k g ii jj - kz k g ii jj k) with q | q
        · exact Int.mul_nonneg q q
        · exact Int.mul_nonneg_of_nonpos_of_nonpos q q) (Int.mul_nonneg hF (Int.le_of_lt hX))
      rw [← h5] at h6
      exact Int.nonneg_of_mul_nonneg_right (Int.nonneg_of_mul_nonneg_right h6 hD0) hD0
    · rw [Tells_zero h hT hrow (n + r) (by omega) hb]; simp
