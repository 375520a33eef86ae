/-! ===== what holds of all points of the system, by any table ===== -/
/-- x: shares (below n) and what is left of each row; q: what each row comes to -/
def Sol (m n : Nat) (g : Nat → Nat → Int) (x : Nat → Int) (q : Int) : Prop := ∀ r, r < m → sm n (fun c => (9 - g r c) * x c) + x (n + r) = q
theorem Sol_vec {m n : Nat} {g : Nat → Nat → Int} {x : Nat → Int} {q : Int} (h : Sol m n g x q) {k : Nat} (hk : k < m + 1) : sm (n + m) (fun v => x v * cv m n g v k) + sm n x * zc m k = q * rv m k := by
  rw [sm_append]
  have e1 : sm n (fun v => x v * cv m n g v k) = sm n (fun v => if k < m then - (x v * g k v) else - x v) := sm_congr (fun v hv => by
    unfold cv
    rw [if_pos hv]
    split
    · exact Int.mul_neg _ _
    · omega)
  rw [e1]
  by_cases hkm : k < m
  · have e2 : sm m (fun r => x (n + r) * cv m n g (n + r) k) = x (n + k) := by
      rw [sm_one (r := k) hkm (fun r hr hne => by
        unfold cv
        rw [if_neg (by omega), if_neg (by omega)]; simp)]
      unfold cv
      rw [if_neg (by omega), if_pos (by omega)]; simp
    rw [e2]
    have h1 := h k hkm
    have e3 : sm n (fun c => (9 - g k c) * x c) = 9 * sm n x - sm n (fun v => x v * g k v) := by
      rw [← sm_mul, ← sm_sub]
      exact sm_congr (fun c _ => by grind)
    have e4 : sm n (fun v => if k < m then - (x v * g k v) else - x v) = - sm n (fun v => x v * g k v) := by
      rw [← sm_neg]
      exact sm_congr (fun v _ => if_pos hkm)
    rw [e4]
    unfold zc rv
    rw [if_pos hkm, if_pos hkm]
    omega
  · have e2 : sm m (fun r => x (n + r) * cv m n g (n + r) k) = 0 := sm_zero (fun r hr => by
      unfold cv
      rw [if_neg (by omega), if_neg (by omega)]; simp)
    have e4 : sm n (fun v => if k < m then - (x v * g k v) else - x v) = - sm n x := by
      rw [← sm_neg]
      exact sm_congr (fun v _ => if_neg hkm)
    rw [e2, e4]
    unfold zc rv
    rw [if_neg hkm, if_neg hkm]
    omega
theorem Sol_of_vec {m n : Nat} {g : Nat → Nat → Int} {x : Nat → Int} {q Z : Int} (h : ∀ k, k < m + 1 → sm (n + m) (fun v => x v * cv m n g v k) + Z * zc m k = q * rv m k) : Z = sm n x ∧ Sol m n g x q := by
  have hm := h m (by omega)
  rw [sm_append] at hm
  have e1 : sm n (fun v => x v * cv m n g v m) = - sm n x := by
    rw [← sm_neg]
    exact sm_congr (fun v hv => by
      unfold cv
      rw [if_pos hv, if_neg (by omega)]; omega)
  have e2 : sm m (fun r => x (n + r) * cv m n g (n + r) m) = 0 := sm_zero (fun r hr => by
    unfold cv
    rw [if_neg (by omega), if_neg (by omega)]; simp)
  rw [e1, e2] at hm
  unfold zc rv at hm
  rw [if_neg (by omega), if_neg (by omega)] at hm
  have hZ : Z = sm n x := by omega
  refine ⟨hZ, fun k hkm => ?_⟩
  have hk := h k (by omega)
  rw [sm_append] at hk
  have e3 : sm n (fun v => x v * cv m n g v k) = - sm n (fun v => x v * g k v) := by
    rw [← sm_neg]
    exact sm_congr (fun v hv => by
      unfold cv
      rw [if_pos hv, if_pos hkm]
      exact Int.mul_neg _ _)
  have e4 : sm m (fun r => x (n + r) * cv m n g (n + r) k) = x (n + k) := by
    rw [sm_one (r := k) hkm (fun r hr hne => by
      unfold cv
      rw [if_neg (by omega), if_neg (by omega)]; simp)]
    unfold cv
    rw [if_neg (by omega), if_pos (by omega)]; simp
  have e5 : sm n (fun c => (9 - g k c) * x c) = 9 * sm n x - sm n (fun v => x v * g k v) := by
    rw [← sm_mul, ← sm_sub]
    exact sm_congr (fun c _ => by grind)
  rw [e3, e4] at hk
  unfold zc rv at hk
  rw [if_pos hkm, if_pos hkm] at hk
  rw [e5]
  omega
/-- the row of a table, for a point -/
theorem SI_row {m n : Nat} {g : Nat → Nat → Int} {s : SS} (h : SI m n g s) {x : Nat → Int} {q : Int} (hs : Sol m n g x q) {i : Nat} (hi : i < m + 1) : s.2.1 * (if i < m then x (s.2.2.1 i) else sm n x) + sm n (fun j => s.1 i j * x (s.2.2.2 j)) = q * s.1 i n := by
  obtain ⟨hN, hC, hD, hD0, hT, hR, hF⟩ := h
  have e : dt (m + 1) (st (Bs m n g s.2.2.1) i (fun k => sm (m + 1) (fun i' => (if i' < m then x (s.2.2.1 i') else sm n x) * Bs m n g s.2.2.1 i' k) + sm n (fun j => x (s.2.2.2 j) * cv m n g (s.2.2.2 j) k))) = dt (m + 1) (st (Bs m n g s.2.2.1) i (fun k => q * rv m k)) := dt_congr (fun i2 hi2 k hk => by
    unfold st
    split
    · show sm (m + 1) (fun i' => (if i' < m then x (s.2.2.1 i') else sm n x) * Bs m n g s.2.2.1 i' k) + sm n (fun j => x (s.2.2.2 j) * cv m n g (s.2.2.2 j) k) = q * rv m k
      rw [← Sol_vec hs hk, ← hN (fun v => x v * cv m n g v k)]
      show sm m (fun i' => (if i' < m then x (s.2.2.1 i') else sm n x) * Bs m n g s.2.2.1 i' k) + (if m < m then x (s.2.2.1 m) else sm n x) * Bs m n g s.2.2.1 m k + _ = _
      rw [if_neg (by omega), Bs_m, sm_congr (n := m) (g := fun i => x (s.2.2.1 i) * cv m n g (s.2.2.1 i) k) (fun i' hi' => by rw [if_pos hi', Bs_lt hi'])]
      omega
    · rfl)
  rw [dt_add _ _ _ hi, dt_smul _ _ _ hi, dt_sum _ hi (m + 1) (fun i' => if i' < m then x (s.2.2.1 i') else sm n x) (Bs m n g s.2.2.1), dt_sum _ hi n (fun j => x (s.2.2.2 j)) (fun j => cv m n g (s.2.2.2 j)), ← hR i hi] at e
  rw [sm_one (r := i) hi (fun k hk hne => by
    rw [dt_alt (st (Bs m n g s.2.2.1) i (Bs m n g s.2.2.1 k)) hi hk (fun q => hne q.symm) (by rw [st_self, st_ne _ _ hne])]; simp), st_id, ← hD] at e
  rw [← e, Int.mul_comm s.2.1]
  congr 1
  exact sm_congr (fun j hj => by rw [hT i j hi hj, Int.mul_comm])
/-- the point of a table, one column moved by y -/
def pt (m n : Nat) (s : SS) (c : Nat) (y : Int) : Nat → Int := fun v => sm m (fun i => if s.2.2.1 i = v then s.1 i n - s.1 i c * y else 0) + (if v = s.2.2.2 c then s.2.1 * y else 0)
theorem pt_row {m n : Nat} {s : SS} (h : SN m n s) {c : Nat} (hc : c < n) (y : Int) {i : Nat} (hi : i < m) : pt m n s c y (s.2.2.1 i) = s.1 i n - s.1 i c * y := by
  unfold pt
  rw [sm_one (r := i) hi (fun k hk hne => if_neg (SN_rr h hk hi hne)), if_pos rfl, if_neg (SN_rc h hi hc)]
  omega
theorem pt_col {m n : Nat} {s : SS} (h : SN m n s) {c : Nat} (hc : c < n) (y : Int) {j : Nat} (hj : j < n) : pt m n s c y (s.2.2.2 j) = if j = c then s.2.1 * y else 0 := by
  unfold pt
  rw [sm_zero (n := m) (fun k hk => if_neg (SN_rc h hk hj))]
  by_cases e : j = c
  · subst e; simp
  · rw [if_neg (SN_cc h hj hc e), if_neg e]; rfl
theorem pt_sum {m n : Nat} {s : SS} (h : SN m n s) {c : Nat} (hc : c < n) (y : Int) (f : Nat → Int) : sm (n + m) (fun v => pt m n s c y v * f v) = sm m (fun i => (s.1 i n - s.1 i c * y) * f (s.2.2.1 i)) + s.2.1 * y * f (s.2.2.2 c) := by
  rw [← h (fun v => pt m n s c y v * f v)]
  rw [sm_congr (n := m) (g := fun i => (s.1 i n - s.1 i c * y) * f (s.2.2.1 i)) (fun i hi => by rw [pt_row h hc y hi])]
  rw [sm_one (n := n) (r := c) hc (fun j hj hne => by rw [pt_col h hc y hj, if_neg hne]; simp), pt_col h hc y hc, if_pos rfl]
theorem pt_Sol {m n : Nat} {g : Nat → Nat → Int} {s : SS} (h : SI m n g s) {c : Nat} (hc : c < n) (y : Int) : s.1 m n - s.1 m c * y = sm n (pt m n s c y) ∧ Sol m n g (pt m n s c y) s.2.1 := by
  obtain ⟨hN, hC, hD, hD0, hT, hR, hF⟩ := h
  refine Sol_of_vec (fun k hk => ?_)
  rw [pt_sum hN hc y (fun v => cv m n g v k)]
  have h1 := hC (rv m) k hk
  have h2 := hC (cv m n g (s.2.2.2 c)) k hk
  rw [← hD] at h1 h2
  have e1 : sm (m + 1) (fun i => dt (m + 1) (st (Bs m n g s.2.2.1) i (rv m)) * Bs m n g s.2.2.1 i k) = sm m (fun i => s.1 i n * cv m n g (s.2.2.1 i) k) + s.1 m n * zc m k := by
    show sm m _ + dt (m + 1) (st (Bs m n g s.2.2.1) m (rv m)) * Bs m n g s.2.2.1 m k = _
    rw [← hR m (by omega), Bs_m]
    congr 1
    exact sm_congr (fun i hi => by rw [← hR i (by omega), Bs_lt hi])
  have e2 : sm (m + 1) (fun i => dt (m + 1) (st (Bs m n g s.2.2.1) i (cv m n g (s.2.2.2 c))) * Bs m n g s.2.2.1 i k) = sm m (fun i => s.1 i c * cv m n g (s.2.2.1 i) k) + s.1 m c * zc m k := by
    show sm m _ + dt (m + 1) (st (Bs m n g s.2.2.1) m (cv m n g (s.2.2.2 c))) * Bs m n g s.2.2.1 m k = _
    rw [← hT m c (by omega) hc, Bs_m]
    congr 1
    exact sm_congr (fun i hi => by rw [← hT i c (by omega) hc, Bs_lt hi])
  rw [e1] at h1
  rw [e2] at h2
  have e3 : sm m (fun i => (s.1 i n - s.1 i c * y) * cv m n g (s.2.2.1 i) k) = sm m (fun i => s.1 i n * cv m n g (s.2.2.1 i) k) - y * sm m (fun i => s.1 i c * cv m n g (s.2.2.1 i) k) := by
    rw [← sm_mul, ← sm_sub]
    exact sm_congr (fun i _ => by grind)
  rw [e3]
  grind
/-- goals: all together, the first share, the second one .. -/
def gl (m n : Nat) (s : SS) : Nat → Int
  | 0 => s.1 m n
  | k + 1 => sm m (fun i => if s.2.2.1 i = k then s.1 i n else 0)
def rd (m n : Nat) (s : SS) (j : Nat) : Nat → Int
  | 0 => s.1 m j
  | k + 1 => if s.2.2.2 j = k then - s.2.1 else sm m (fun i => if s.2.2.1 i = k then s.1 i j else 0)
def gx (n : Nat) (x : Nat → Int) : Nat → Int
  | 0 => sm n x
  | k + 1 => x k
theorem SI_goal {m n : Nat} {g : Nat → Nat → Int} {s : SS} (h : SI m n g s) {x : Nat → Int} {q : Int} (hs : Sol m n g x q) {k : Nat} (hk : k < n + 1) : s.2.1 * gx n x k + sm n (fun j => x (s.2.2.2 j) * rd m n s j k) = q * gl m n s k := by
  have hN := h.1
  cases k with
  | zero =>
    have := SI_row h hs (i := m) (by omega)
    rw [if_neg (by omega)] at this
    show s.2.1 * sm n x + sm n (fun j => x (s.2.2.2 j) * s.1 m j) = q * s.1 m n
    rw [← this]
    congr 1
    exact sm_congr (fun j _ => Int.mul_comm _ _)
  | succ k =>
    show s.2.1 * x k + sm n (fun j => x (s.2.2.2 j) * (if s.2.2.2 j = k then - s.2.1 else sm m (fun i => if s.2.2.1 i = k then s.1 i j else 0))) = q * sm m (fun i => if s.2.2.1 i = k then s.1 i n else 0)
    rcases SN_all hN (v := k) (by omega) with ⟨i, hi, e⟩ | ⟨j, hj, e⟩
    · have := SI_row h hs (i := i) (by omega)
      rw [if_pos hi] at this
      have e1 : ∀ j, j < n + 1 → sm m (fun i => if s.2.2.1 i = k then s.1 i j else 0) = s.1 i j := fun j _ => by
        rw [sm_one (r := i) hi (fun i' hi' hne => if_neg (fun q => SN_rr hN hi' hi hne (q.trans e.symm))), if_pos e]
      rw [e1 n (by omega), ← this, e]
      congr 1
      exact sm_congr (fun j hj => by
        rw [if_neg (fun q => SN_rc hN hi hj (e.trans q.symm)), e1 j (by omega), Int.mul_comm])
    · have e1 : ∀ j, sm m (fun i => if s.2.2.1 i = k then s.1 i j else 0) = 0 := fun j' => sm_zero (fun i hi => if_neg (fun q => SN_rc hN hi hj (q.trans e.symm)))
      rw [e1 n, sm_one (r := j) hj (fun j' hj' hne => by
        rw [if_neg (fun q => SN_cc hN hj' hj hne (q.trans e.symm)), e1 j']; simp), if_pos e, e]
      grind
/-- no column is better: no point is -/
theorem SI_opt {m n : Nat} {g : Nat → Nat → Int} {s : SS} (h : SI m n g s) (hbest : ∀ j, j < n → Lnn (n + 1) (rd m n s j)) {x : Nat → Int} {q : Int} (hs : Sol m n g x q) (hx : ∀ v, v < n + m → 0 ≤ x v) : Lnn (n + 1) (fun k => q * gl m n s k - s.2.1 * gx n x k) := by
  refine Lnn_congr (f := fun k => sm n (fun j => x (s.2.2.2 j) * rd m n s j k)) (fun k hk => ?_) (Lnn_sm n _ _ (fun j hj => Lnn_mul (hx _ (SN_col h.1 hj)) (hbest j hj)))
  have := SI_goal h hs hk
  omega
theorem S0_SI (m n : Nat) (g : Nat → Nat → Int) : SI m n g (S0 m n g) := by
  have hCRB : CR (m + 1) (Bs m n g (fun i => n + i)) ∧ dt (m + 1) (Bs m n g (fun i => n + i)) = 1 := by
    have e : dt (m + 1) (st un m (zc m)) = 1 := by
      rw [dt_un_st (by omega)]; unfold zc; rw [if_neg (by omega)]
    have e2 : ∀ i, i < m + 1 → ∀ q, q < m + 1 → Bs m n g (fun i => n + i) i q = st un m (zc m) i q := fun i hi q hq => by
      unfold Bs st
      by_cases h : i < m
      · rw [if_pos h, if_neg (by omega)]
        unfold cv un
        show (if n + i < n then _ else (if q + n = n + i then (1 : Int) else 0)) = _
        rw [if_neg (by omega)]
        by_cases h2 : i = q
        · rw [if_pos h2, if_pos (by omega)]
        · rw [if_neg h2, if_neg (by omega)]
      · rw [if_neg h, if_pos (by omega)]
    have e3 : ∀ (i : Nat) (u : Nat → Int), dt (m + 1) (st (Bs m n g (fun i => n + i)) i u) = dt (m + 1) (st (st un m (zc m)) i u) := fun i u => dt_congr (fun j hj q hq => by
      show (if j = i then u else Bs m n g (fun i => n + i) j) q = (if j = i then u else st un m (zc m) j) q
      by_cases h : j = i
      · rw [if_pos h, if_pos h]
      · rw [if_neg h, if_neg h]; exact e2 j hj q hq)
    have e4 : dt (m + 1) (Bs m n g (fun i => n + i)) = 1 := by
      rw [dt_congr e2, e]
    refine ⟨fun u q hq => ?_, e4⟩
    have := CR_ex (CR_un (m + 1)) (by rw [dt_un]; decide) (r := m) (by omega) (zc m) u q hq
    rw [e] at this
    rw [e4, this]
    exact sm_congr (fun i hi => by rw [e3, e2 i hi q hq])
  have hgen : ∀ (w : Nat → Int) (a : Nat → Int), (∀ q, q < m + 1 → w q = sm (m + 1) (fun i => a i * Bs m n g (fun i => n + i) i q)) → ∀ i, i < m + 1 → dt (m + 1) (st (Bs m n g (fun i => n + i)) i w) = a i := by
    intro w a hw i hi
    rw [show dt (m + 1) (st (Bs m n g (fun i => n + i)) i w) = dt (m + 1) (st (Bs m n g (fun i => n + i)) i (fun q => sm (m + 1) (fun i => a i * Bs m n g (fun i => n + i) i q))) from dt_congr (fun j hj q hq => by
      unfold st
      split
      · exact hw q hq
      · rfl), dt_sum _ hi (m + 1) a (Bs m n g (fun i => n + i)), sm_one (r := i) hi (fun k hk hne => by
      rw [dt_alt (st (Bs m n g (fun i => n + i)) i (Bs m n g (fun i => n + i) k)) hi hk (fun q => hne q.symm) (by rw [st_self, st_ne _ _ hne])]; simp), st_id, hCRB.2]
    omega
  have hval : ∀ (a : Nat → Int) (q : Nat), q < m + 1 → sm (m + 1) (fun i => a i * Bs m n g (fun i => n + i) i q) = (if q < m then a q else 0) + a m * zc m q := by
    intro a q hq
    show sm m (fun i => a i * Bs m n g (fun i => n + i) i q) + a m * Bs m n g (fun i => n + i) m q = _
    rw [Bs_m]
    congr 1
    by_cases h : q < m
    · rw [if_pos h, sm_one (r := q) h (fun k hk hne => by
        rw [Bs_lt hk]; unfold cv; rw [if_neg (by omega), if_neg (by omega)]; simp), Bs_lt h]
      unfold cv
      rw [if_neg (by omega), if_pos (by omega)]; simp
    · rw [if_neg h]
      exact sm_zero (fun k hk => by
        rw [Bs_lt hk]; unfold cv; rw [if_neg (by omega), if_neg (by omega)]; simp)
  refine ⟨?_, hCRB.1, hCRB.2.symm, (by show (0 : Int) < 1; decide), ?_, ?_, ?_⟩
  · intro f
    show sm m (fun i => f (n + i)) + sm n f = sm (n + m) f
    rw [sm_append]; omega
  · intro i j hi hj
    exact (hgen (cv m n g j) (fun i => (S0 m n g).1 i j) (fun q hq => by
      rw [hval _ q hq]
      unfold S0 cv zc
      by_cases h : q < m
      · simp only [if_pos h, if_pos hj, if_neg (show ¬ m < m by omega)]; omega
      · simp only [if_neg h, if_pos hj, if_neg (show ¬ m < m by omega)]; omega) i hi).symm
  · intro i hi
    exact (hgen (rv m) (fun i => (S0 m n g).1 i n) (fun q hq => by
      rw [hval _ q hq]
      unfold S0 rv zc
      by_cases h : q < m
      · simp only [if_pos h, if_neg (show ¬ n < n by omega), if_neg (show ¬ m < m by omega)]; omega
      · simp only [if_neg h, if_neg (show ¬ n < n by omega), if_neg (show ¬ m < m by omega)]; omega) i hi).symm
  · intro i hi
    show 0 ≤ if i < m then (if n < n then 9 - g i n else 1) else _
    rw [if_pos hi, if_neg (by omega)]; decide
