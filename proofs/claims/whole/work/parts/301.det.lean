/-! ===== sums and determinants of whole numbers ===== -/
def sm : Nat → (Nat → Int) → Int
  | 0, _ => 0
  | n + 1, f => sm n f + f n
theorem sm_congr {n : Nat} {f g : Nat → Int} (h : ∀ k, k < n → f k = g k) : sm n f = sm n g := by
  induction n with
  | zero => rfl
  | succ n ih =>
    show sm n f + f n = sm n g + g n
    rw [ih (fun k hk => h k (by omega)), h n (by omega)]
theorem sm_add (n : Nat) (f g : Nat → Int) : sm n (fun k => f k + g k) = sm n f + sm n g := by
  induction n with
  | zero => rfl
  | succ n ih =>
    show sm n (fun k => f k + g k) + (f n + g n) = (sm n f + f n) + (sm n g + g n)
    rw [ih]; omega
theorem sm_mul (n : Nat) (a : Int) (f : Nat → Int) : sm n (fun k => a * f k) = a * sm n f := by
  induction n with
  | zero => show (0 : Int) = a * 0; omega
  | succ n ih =>
    show sm n (fun k => a * f k) + a * f n = a * (sm n f + f n)
    rw [ih, Int.mul_add]
theorem sm_neg (n : Nat) (f : Nat → Int) : sm n (fun k => - f k) = - sm n f := by
  induction n with
  | zero => rfl
  | succ n ih =>
    show sm n (fun k => - f k) + - f n = - (sm n f + f n)
    rw [ih]; omega
theorem sm_sub (n : Nat) (f g : Nat → Int) : sm n (fun k => f k - g k) = sm n f - sm n g := by
  induction n with
  | zero => rfl
  | succ n ih =>
    show sm n (fun k => f k - g k) + (f n - g n) = (sm n f + f n) - (sm n g + g n)
    rw [ih]; omega
theorem sm_zero {n : Nat} {f : Nat → Int} (h : ∀ k, k < n → f k = 0) : sm n f = 0 := by
  induction n with
  | zero => rfl
  | succ n ih =>
    show sm n f + f n = 0
    rw [ih (fun k hk => h k (by omega)), h n (by omega)]; rfl
theorem sm_one {n r : Nat} {f : Nat → Int} (hr : r < n) (h : ∀ k, k < n → k ≠ r → f k = 0) : sm n f = f r := by
  induction n with
  | zero => omega
  | succ n ih =>
    show sm n f + f n = f r
    by_cases e : r = n
    · subst e
      rw [sm_zero (fun k hk => h k (by omega) (by omega))]; omega
    · rw [ih (by omega) (fun k hk hne => h k (by omega) hne), h n (by omega) (fun q => e q.symm)]; omega
theorem sm_two {n r s : Nat} {f : Nat → Int} (hr : r < n) (hs : s < n) (hrs : r ≠ s) (h : ∀ k, k < n → k ≠ r → k ≠ s → f k = 0) : sm n f = f r + f s := by
  have e : sm n f = sm n (fun k => (if k = r then f r else 0) + (if k = s then f s else 0)) := sm_congr (fun k hk => by
    by_cases h1 : k = r
    · subst h1; simp [hrs]
    · by_cases h2 : k = s
      · subst h2; simp [h1]
      · simp [h1, h2, h k hk h1 h2])
  rw [e, sm_add, sm_one hr (fun k _ hk => by simp [hk]), sm_one hs (fun k _ hk => by simp [hk])]
  simp
theorem sm_comm (n m : Nat) (f : Nat → Nat → Int) : sm n (fun i => sm m (fun j => f i j)) = sm m (fun j => sm n (fun i => f i j)) := by
  induction n with
  | zero => exact (sm_zero (fun _ _ => rfl)).symm
  | succ n ih =>
    show sm n (fun i => sm m (fun j => f i j)) + sm m (fun j => f n j) = sm m (fun j => sm n (fun i => f i j) + f n j)
    rw [sm_add, ih]
theorem sm_nonneg {n : Nat} {f : Nat → Int} (h : ∀ k, k < n → 0 ≤ f k) : 0 ≤ sm n f := by
  induction n with
  | zero => exact Int.le_refl 0
  | succ n ih =>
    have h1 := ih (fun k hk => h k (by omega))
    have h2 := h n (by omega)
    show 0 ≤ sm n f + f n
    omega
theorem sm_le {n : Nat} {f g : Nat → Int} (h : ∀ k, k < n → f k ≤ g k) : sm n f ≤ sm n g := by
  induction n with
  | zero => exact Int.le_refl 0
  | succ n ih =>
    have h1 := ih (fun k hk => h k (by omega))
    have h2 := h n (by omega)
    show sm n f + f n ≤ sm n g + g n
    omega
theorem sm_ge_one {n r : Nat} {f : Nat → Int} (hr : r < n) (h : ∀ k, k < n → 0 ≤ f k) : f r ≤ sm n f := by
  induction n with
  | zero => omega
  | succ n ih =>
    show f r ≤ sm n f + f n
    by_cases e : r = n
    · subst e
      have := sm_nonneg (n := r) (f := f) (fun k hk => h k (by omega))
      omega
    · have h1 := ih (by omega) (fun k hk => h k (by omega))
      have h2 := h n (by omega)
      omega
theorem sm_abs_le {n : Nat} {f g : Nat → Int} (h : ∀ k, k < n → (- g k ≤ f k ∧ f k ≤ g k)) : - sm n g ≤ sm n f ∧ sm n f ≤ sm n g := by
  induction n with
  | zero => exact ⟨Int.le_refl 0, Int.le_refl 0⟩
  | succ n ih =>
    have h1 := ih (fun k hk => h k (by omega))
    have h2 := h n (by omega)
    show - (sm n g + g n) ≤ sm n f + f n ∧ sm n f + f n ≤ sm n g + g n
    omega
/-- signs by turns -/
def sgn : Nat → Int
  | 0 => 1
  | k + 1 => - sgn k
/-- past a place -/
def sk (k i : Nat) : Nat := if i < k then i else i + 1
def us (k r : Nat) : Nat := if r < k then r else r - 1
theorem sk_ne (k i : Nat) : sk k i ≠ k := by unfold sk; split <;> omega
theorem sk_eq {k r i : Nat} (h : r ≠ k) : sk k i = r ↔ i = us k r := by
  unfold sk us; split <;> split <;> omega
theorem us_lt {k r n : Nat} (h : r ≠ k) (hk : k < n + 1) (hr : r < n + 1) : us k r < n := by
  unfold us; split <;> omega
theorem sk_lt {k i n : Nat} (hi : i < n) : sk k i < n + 1 := by unfold sk; split <;> omega
/-- the determinant of n vectors (a vector: its places 0 to n - 1) -/
def dt : Nat → (Nat → Nat → Int) → Int
  | 0, _ => 1
  | n + 1, M => sm (n + 1) (fun k => sgn k * M k 0 * dt n (fun i q => M (sk k i) (q + 1)))
def mn (M : Nat → Nat → Int) (k : Nat) : Nat → Nat → Int := fun i q => M (sk k i) (q + 1)
theorem dt_succ (n : Nat) (M : Nat → Nat → Int) : dt (n + 1) M = sm (n + 1) (fun k => sgn k * M k 0 * dt n (mn M k)) := rfl
def st (M : Nat → Nat → Int) (r : Nat) (u : Nat → Int) : Nat → Nat → Int := fun i => if i = r then u else M i
theorem st_self (M : Nat → Nat → Int) (r : Nat) (u : Nat → Int) : st M r u r = u := if_pos rfl
theorem st_ne (M : Nat → Nat → Int) {r i : Nat} (u : Nat → Int) (h : i ≠ r) : st M r u i = M i := if_neg h
theorem st_st (M : Nat → Nat → Int) (r : Nat) (u v : Nat → Int) : st (st M r u) r v = st M r v := by
  funext i; unfold st; split <;> rfl
theorem st_comm (M : Nat → Nat → Int) {r s : Nat} (u v : Nat → Int) (h : r ≠ s) : st (st M r u) s v = st (st M s v) r u := by
  funext i; unfold st
  by_cases h1 : i = r
  · subst h1; simp [h]
  · simp [h1]
theorem st_id (M : Nat → Nat → Int) (r : Nat) : st M r (M r) = M := by
  funext i; unfold st; split
  · rename_i h; rw [h]
  · rfl
theorem dt_congr : ∀ {n : Nat} {M M' : Nat → Nat → Int}, (∀ i, i < n → ∀ q, q < n → M i q = M' i q) → dt n M = dt n M'
  | 0, _, _, _ => rfl
  | n + 1, M, M', h => by
    rw [dt_succ, dt_succ]
    refine sm_congr (fun k hk => ?_)
    rw [h k hk 0 (by omega), dt_congr (n := n) (M := mn M k) (M' := mn M' k) (fun i hi q hq => h (sk k i) (sk_lt hi) (q + 1) (by omega))]
theorem mn_st_self (M : Nat → Nat → Int) (r : Nat) (u : Nat → Int) : mn (st M r u) r = mn M r := by
  funext i q; unfold mn; rw [st_ne M u (sk_ne r i)]
theorem mn_st (M : Nat → Nat → Int) {r k : Nat} (u : Nat → Int) (h : r ≠ k) : mn (st M r u) k = st (mn M k) (us k r) (fun q => u (q + 1)) := by
  funext i q
  by_cases e : i = us k r
  · have e2 : sk k i = r := (sk_eq h).mpr e
    show st M r u (sk k i) (q + 1) = st (mn M k) (us k r) (fun q => u (q + 1)) i q
    rw [e2, st_self, e, st_self]
  · have e2 : sk k i ≠ r := fun q => e ((sk_eq h).mp q)
    show st M r u (sk k i) (q + 1) = st (mn M k) (us k r) (fun q => u (q + 1)) i q
    rw [st_ne M u e2, st_ne (mn M k) _ e]; rfl
theorem dt_lin : ∀ {n : Nat} (M : Nat → Nat → Int) {r : Nat} (a b : Int) (u v : Nat → Int), r < n → dt n (st M r (fun q => a * u q + b * v q)) = a * dt n (st M r u) + b * dt n (st M r v)
  | 0, _, _, _, _, _, _, h => by omega
  | n + 1, M, r, a, b, u, v, h => by
    rw [dt_succ, dt_succ, dt_succ, ← sm_mul, ← sm_mul, ← sm_add]
    refine sm_congr (fun k hk => ?_)
    by_cases e : r = k
    · subst e
      rw [mn_st_self, mn_st_self, mn_st_self, st_self, st_self, st_self]
      grind
    · rw [mn_st M _ e, mn_st M _ e, mn_st M _ e, st_ne M _ (fun q => e q.symm), st_ne M _ (fun q => e q.symm), st_ne M _ (fun q => e q.symm)]
      rw [dt_lin (n := n) (mn M k) a b (fun q => u (q + 1)) (fun q => v (q + 1)) (us_lt e hk h)]
      grind
theorem dt_smul {n : Nat} (M : Nat → Nat → Int) {r : Nat} (a : Int) (u : Nat → Int) (h : r < n) : dt n (st M r (fun q => a * u q)) = a * dt n (st M r u) := by
  have := dt_lin M a 0 u u h
  simpa using this
theorem dt_add {n : Nat} (M : Nat → Nat → Int) {r : Nat} (u v : Nat → Int) (h : r < n) : dt n (st M r (fun q => u q + v q)) = dt n (st M r u) + dt n (st M r v) := by
  have := dt_lin M 1 1 u v h
  simpa using this
theorem dt_sum {n : Nat} (M : Nat → Nat → Int) {r : Nat} (h : r < n) (N : Nat) (a : Nat → Int) (U : Nat → Nat → Int) : dt n (st M r (fun q => sm N (fun k => a k * U k q))) = sm N (fun k => a k * dt n (st M r (U k))) := by
  induction N with
  | zero =>
    have := dt_smul M 0 (fun _ => 0) h
    simpa [sm] using this
  | succ N ih =>
    show dt n (st M r (fun q => sm N (fun k => a k * U k q) + a N * U N q)) = sm N (fun k => a k * dt n (st M r (U k))) + a N * dt n (st M r (U N))
    rw [dt_add M (fun q => sm N (fun k => a k * U k q)) (fun q => a N * U N q) h, ih, dt_smul M (a N) (U N) h]
theorem dt_zero {n : Nat} (M : Nat → Nat → Int) {r : Nat} (h : r < n) : dt n (st M r (fun _ => 0)) = 0 := by
  have := dt_smul M 0 (fun _ => 0) h
  simpa using this
theorem dt_adj : ∀ {n : Nat} (M : Nat → Nat → Int) {r : Nat}, r + 1 < n → M r = M (r + 1) → dt n M = 0
  | 0, _, _, h, _ => by omega
  | n + 1, M, r, h, e => by
    rw [dt_succ, sm_two (r := r) (s := r + 1) (by omega) h (by omega) (fun k hk h1 h2 => ?_)]
    · have e2 : mn M r = mn M (r + 1) := by
        funext i q
        show M (sk r i) (q + 1) = M (sk (r + 1) i) (q + 1)
        unfold sk
        by_cases h1 : i < r
        · rw [if_pos h1, if_pos (by omega)]
        · by_cases h2 : i = r
          · subst h2
            rw [if_neg (by omega), if_pos (by omega), e]
          · rw [if_neg h1, if_neg (by omega)]
      rw [e2, e]
      show sgn r * M (r + 1) 0 * dt n (mn M (r + 1)) + - sgn r * M (r + 1) 0 * dt n (mn M (r + 1)) = 0
      grind
    · have : dt n (mn M k) = 0 := by
        by_cases h3 : k < r
        · refine dt_adj (mn M k) (r := r - 1) (by omega) ?_
          funext q
          show M (sk k (r - 1)) (q + 1) = M (sk k (r - 1 + 1)) (q + 1)
          unfold sk
          rw [if_neg (by omega), if_neg (by omega), show r - 1 + 1 = r by omega, e]
        · refine dt_adj (mn M k) (r := r) (by omega) ?_
          funext q
          show M (sk k r) (q + 1) = M (sk k (r + 1)) (q + 1)
          unfold sk
          rw [if_pos (by omega), if_pos (by omega), e]
      rw [this, Int.mul_zero]
/-- two vectors changed for one another, if equal vectors give 0 there -/
theorem dt_sw {n : Nat} (M : Nat → Nat → Int) {r s : Nat} (hr : r < n) (hs : s < n) (hrs : r ≠ s) (h0 : ∀ w : Nat → Int, dt n (st (st M r w) s w) = 0) (u v : Nat → Int) : dt n (st (st M r u) s v) = - dt n (st (st M r v) s u) := by
  have h1 := h0 (fun q => u q + v q)
  rw [dt_add (st M r (fun q => u q + v q)) u v hs, st_comm M _ u hrs, st_comm M _ v hrs, dt_add (st M s u) u v hr, dt_add (st M s v) u v hr, st_comm M u u hrs.symm, st_comm M u v hrs.symm, st_comm M v u hrs.symm, st_comm M v v hrs.symm, h0 u, h0 v] at h1
  omega
theorem dt_alt_lt : ∀ (d : Nat) {n : Nat} (M : Nat → Nat → Int) {r : Nat}, r + 1 + d < n → M r = M (r + 1 + d) → dt n M = 0
  | 0, _, M, r, h, e => dt_adj M h e
  | d + 1, n, M, r, h, e => by
    have hs := dt_sw M (r := r + 1 + d) (s := r + 1 + d + 1) (by omega) h (by omega) (fun w => dt_adj _ (r := r + 1 + d) h (by
      rw [st_self, st_ne _ _ (by omega), st_self])) (M (r + 1 + d)) (M (r + 1 + d + 1))
    rw [st_id, st_id] at hs
    have h2 : dt n (st (st M (r + 1 + d) (M (r + 1 + d + 1))) (r + 1 + d + 1) (M (r + 1 + d))) = 0 := by
      refine dt_alt_lt d _ (r := r) (by omega) ?_
      rw [st_ne _ _ (by omega), st_ne _ _ (by omega), st_ne _ _ (by omega), st_self, e]; rfl
    rw [hs, h2]; rfl
theorem dt_alt {n : Nat} (M : Nat → Nat → Int) {r s : Nat} (hr : r < n) (hs : s < n) (hrs : r ≠ s) (e : M r = M s) : dt n M = 0 := by
  by_cases h : r < s
  · obtain ⟨d, hd⟩ : ∃ d, s = r + 1 + d := ⟨s - r - 1, by omega⟩
    subst hd
    exact dt_alt_lt d M hs e
  · obtain ⟨d, hd⟩ : ∃ d, r = s + 1 + d := ⟨r - s - 1, by omega⟩
    subst hd
    exact dt_alt_lt d M hr e.symm
theorem dt_swap {n : Nat} (M : Nat → Nat → Int) {r s : Nat} (hr : r < n) (hs : s < n) (hrs : r ≠ s) (u v : Nat → Int) : dt n (st (st M r u) s v) = - dt n (st (st M r v) s u) :=
  dt_sw M hr hs hrs (fun w => dt_alt _ hr hs hrs (by rw [st_ne _ _ hrs, st_self, st_self])) u v
def un : Nat → Nat → Int := fun i q => if i = q then 1 else 0
theorem dt_un : ∀ n : Nat, dt n un = 1
  | 0 => rfl
  | n + 1 => by
    rw [dt_succ, sm_one (r := 0) (by omega) (fun k _ hk => by
      have : un k 0 = 0 := if_neg hk
      rw [this]; simp)]
    have e : mn un 0 = un := by
      funext i q
      show un (sk 0 i) (q + 1) = un i q
      unfold un sk
      simp
    rw [e, dt_un n]; rfl
/-- bounds: the sum of all products of bounds -/
def pm : Nat → (Nat → Nat → Int) → Int
  | 0, _ => 1
  | n + 1, b => sm (n + 1) (fun k => b k 0 * pm n (fun i q => b (sk k i) (q + 1)))
theorem sgn_or (k : Nat) : sgn k = 1 ∨ sgn k = -1 := by
  induction k with
  | zero => exact Or.inl rfl
  | succ k ih =>
    show - sgn k = 1 ∨ - sgn k = -1
    rcases ih with h | h <;> rw [h] <;> decide
theorem pm_nonneg : ∀ {n : Nat} {b : Nat → Nat → Int}, (∀ i q, i < n → q < n → 0 ≤ b i q) → 0 ≤ pm n b
  | 0, _, _ => by show (0 : Int) ≤ 1; decide
  | n + 1, b, h => by
    show 0 ≤ sm (n + 1) (fun k => b k 0 * pm n (fun i q => b (sk k i) (q + 1)))
    exact sm_nonneg (fun k hk => Int.mul_nonneg (h k 0 hk (by omega)) (pm_nonneg (fun i q hi hq => h (sk k i) (q + 1) (sk_lt hi) (by omega))))
theorem abs_mul {a b x y : Int} (h1 : - a ≤ x) (h2 : x ≤ a) (h3 : - b ≤ y) (h4 : y ≤ b) : - (a * b) ≤ x * y ∧ x * y ≤ a * b := by
  have ha : 0 ≤ a := by omega
  have hb : 0 ≤ b := by omega
  have e1 := Int.mul_nonneg (show 0 ≤ a - x by omega) (show 0 ≤ b + y by omega)
  have e2 := Int.mul_nonneg (show 0 ≤ a + x by omega) (show 0 ≤ b - y by omega)
  have e3 := Int.mul_nonneg (show 0 ≤ a - x by omega) (show 0 ≤ b - y by omega)
  have e4 := Int.mul_nonneg (show 0 ≤ a + x by omega) (show 0 ≤ b + y by omega)
  constructor <;> grind
theorem dt_bound : ∀ {n : Nat} {M b : Nat → Nat → Int}, (∀ i q, i < n → q < n → (- b i q ≤ M i q ∧ M i q ≤ b i q)) → - pm n b ≤ dt n M ∧ dt n M ≤ pm n b
  | 0, _, _, _ => by show - (1 : Int) ≤ 1 ∧ (1 : Int) ≤ 1; decide
  | n + 1, M, b, h => by
    rw [dt_succ]
    show - sm (n + 1) (fun k => b k 0 * pm n (fun i q => b (sk k i) (q + 1))) ≤ _ ∧ _ ≤ sm (n + 1) (fun k => b k 0 * pm n (fun i q => b (sk k i) (q + 1)))
    refine sm_abs_le (fun k hk => ?_)
    have h1 := dt_bound (n := n) (M := mn M k) (b := fun i q => b (sk k i) (q + 1)) (fun i q hi hq => h (sk k i) (q + 1) (sk_lt hi) (by omega))
    have h2 := h k 0 hk (by omega)
    have h3 : - b k 0 ≤ sgn k * M k 0 ∧ sgn k * M k 0 ≤ b k 0 := by
      rcases sgn_or k with e | e <;> rw [e] <;> omega
    exact abs_mul h3.1 h3.2 h1.1 h1.2
/-- Cramer's rule for a family of vectors -/
def CR (n : Nat) (B : Nat → Nat → Int) : Prop := ∀ (u : Nat → Int) (q : Nat), q < n → dt n B * u q = sm n (fun i => dt n (st B i u) * B i q)
theorem dt_un_st {n i : Nat} (hi : i < n) (u : Nat → Int) : dt n (st un i u) = u i := by
  have e : dt n (st un i u) = dt n (st un i (fun q => sm n (fun k => u k * un k q))) := dt_congr (fun j hj q hq => by
    unfold st
    split
    · show u q = sm n (fun k => u k * un k q)
      rw [sm_one (r := q) hq (fun k _ hk => by
        have : un k q = 0 := if_neg hk
        rw [this]; simp)]
      have : un q q = 1 := if_pos rfl
      rw [this]; simp
    · rfl)
  rw [e, dt_sum un hi n u un, sm_one (r := i) hi (fun k hk hne => by
    rw [dt_alt (st un i (un k)) hi hk (fun q => hne q.symm) (by rw [st_self, st_ne _ _ hne])]; simp), st_id, dt_un]
  simp
theorem CR_un (n : Nat) : CR n un := by
  intro u q hq
  rw [dt_un, sm_one (r := q) hq (fun k hk hne => by
    have : un k q = 0 := if_neg hne
    rw [this]; simp), dt_un_st hq]
  have : un q q = 1 := if_pos rfl
  rw [this]; simp
/-- the exchange rule -/
theorem dt_ex {n : Nat} {B : Nat → Nat → Int} (hC : CR n B) {r i : Nat} (hr : r < n) (hi : i < n) (hri : r ≠ i) (u v : Nat → Int) : dt n B * dt n (st (st B r u) i v) = dt n (st B r u) * dt n (st B i v) - dt n (st B r v) * dt n (st B i u) := by
  have e1 : dt n B * dt n (st (st B r u) i v) = dt n (st (st B i v) r (fun q => sm n (fun k => dt n (st B k u) * B k q))) := by
    rw [st_comm B u v hri, ← dt_smul (st B i v) (dt n B) u hr]
    refine dt_congr (fun j hj q hq => ?_)
    unfold st
    split
    · exact hC u q hq
    · rfl
  rw [e1, dt_sum (st B i v) hr n (fun k => dt n (st B k u)) B, sm_two (r := r) (s := i) hr hi hri (fun k hk h1 h2 => by
    rw [dt_alt (st (st B i v) r (B k)) hr hk (fun q => h1 q.symm) (by rw [st_self, st_ne _ _ h1, st_ne _ _ h2])]; simp)]
  have e2 : st (st B i v) r (B r) = st B i v := by
    rw [← st_comm B _ _ hri, st_id]
  have e3 : dt n (st (st B i v) r (B i)) = - dt n (st B r v) := by
    rw [← st_comm B _ _ hri, dt_swap B hr hi hri (B i) v, st_comm B v (B i) hri, st_id]
  rw [e2, e3]
  grind
theorem CR_ex {n : Nat} {B : Nat → Nat → Int} (hC : CR n B) (hD : dt n B ≠ 0) {r : Nat} (hr : r < n) (w : Nat → Int) : CR n (st B r w) := by
  intro u q hq
  apply Int.eq_of_mul_eq_mul_left hD
  have hu := hC u q hq
  have hw := hC w q hq
  have e : sm n (fun i => dt n B * (dt n (st (st B r w) i u) * (st B r w) i q)) = sm n (fun i => dt n (st B r w) * (dt n (st B i u) * B i q) - dt n (st B r u) * (dt n (st B i w) * B i q)) + dt n B * (dt n (st B r u) * w q) := by
    have e2 : sm n (fun i => if i = r then dt n B * (dt n (st B r u) * w q) else 0) = dt n B * (dt n (st B r u) * w q) := by
      rw [sm_one hr (fun k _ hk => by simp [hk])]; simp
    rw [← e2, ← sm_add]
    refine sm_congr (fun i hi => ?_)
    by_cases h : i = r
    · subst h
      rw [st_st, st_self, if_pos rfl]
      grind
    · rw [if_neg h, st_ne _ _ h]
      have := dt_ex hC hr hi (fun q => h q.symm) w u
      grind
  rw [← sm_mul, e, sm_sub, sm_mul, sm_mul, ← hu, ← hw]
  grind
/-- a vector of which the rest is spanned: nothing but 0 -/
theorem dt_comb {n : Nat} (B : Nat → Nat → Int) {r : Nat} (hr : r < n) (c : Nat → Int) (h : ∀ q, q < n → sm n (fun k => c k * B k q) = 0) : c r * dt n B = 0 := by
  have e : dt n (st B r (fun q => sm n (fun k => c k * B k q))) = 0 := by
    rw [show dt n (st B r (fun q => sm n (fun k => c k * B k q))) = dt n (st B r (fun _ => 0)) from dt_congr (fun j hj q hq => by
      unfold st
      split
      · exact h q hq
      · rfl), dt_zero B hr]
  rw [dt_sum B hr n c B, sm_one (r := r) hr (fun k hk hne => by
    rw [dt_alt (st B r (B k)) hr hk (fun q => hne q.symm) (by rw [st_self, st_ne _ _ hne])]; simp), st_id] at e
  exact e
