/-! ===== no basis comes again ===== -/
def Ent (m n : Nat) (s : SS) (c : Nat) : Prop := c < n ∧ Lps (n + 1) (fun k => - rd m n s c k) ∧ ∀ j, j < n → Lps (n + 1) (fun k => - rd m n s j k) → s.2.2.2 c ≤ s.2.2.2 j
def Lea (m n : Nat) (s : SS) (c r : Nat) : Prop := r < m ∧ 0 < s.1 r c ∧ ∀ i, i < m → 0 < s.1 i c → s.1 r n * s.1 i c < s.1 i n * s.1 r c ∨ (s.1 r n * s.1 i c = s.1 i n * s.1 r c ∧ s.2.2.1 r ≤ s.2.2.1 i)
theorem Lea_rat {m n : Nat} {s : SS} {c r : Nat} (h : Lea m n s c r) : ∀ i, i < m → 0 < s.1 i c → s.1 r n * s.1 i c ≤ s.1 i n * s.1 r c := fun i hi hp => by
  rcases h.2.2 i hi hp with q | q
  · omega
  · omega
/-- bounded: some row stops a column -/
theorem SI_bounded {m n : Nat} {g : Nat → Nat → Int} {s : SS} (h : SI m n g s) (hm : 0 < m) (hg : ∀ r c, r < m → c < n → g r c ≤ 8) {c : Nat} (hc : c < n) : ∃ i, i < m ∧ 0 < s.1 i c := by
  apply Classical.byContradiction
  intro hno
  have hle : ∀ i, i < m → s.1 i c ≤ 0 := fun i hi => by
    apply Classical.byContradiction
    intro q
    exact hno ⟨i, hi, by omega⟩
  have hN := h.1
  have hD0 := h.2.2.2.1
  have hF := h.2.2.2.2.2.2
  have hS := (pt_Sol h hc 2).2
  have hpos : ∀ v, v < n + m → 0 ≤ pt m n s c 2 v := fun v hv => by
    rcases SN_all hN hv with ⟨i, hi, e⟩ | ⟨j, hj, e⟩
    · rw [← e, pt_row hN hc 2 hi]
      have := hF i hi
      have := hle i hi
      omega
    · rw [← e, pt_col hN hc 2 hj]
      split <;> omega
  have hall : ∀ v, v < n + m → pt m n s c 2 v ≤ s.2.1 := fun v hv => by
    by_cases hvn : v < n
    · have h1 := hS 0 hm
      have h2 := sm_ge_one (n := n) (r := v) (f := fun c' => (9 - g 0 c') * pt m n s c 2 c') hvn (fun k hk => Int.mul_nonneg (by have := hg 0 k hm hk; omega) (hpos k (by omega)))
      have h3 := hpos (n + 0) (by omega)
      have h4 := hpos v hv
      have h5 := hg 0 v hm hvn
      have h6 : pt m n s c 2 v ≤ (9 - g 0 v) * pt m n s c 2 v := by
        have := Int.mul_nonneg (show 0 ≤ 9 - g 0 v - 1 by omega) h4
        grind
      omega
    · have h1 := hS (v - n) (by omega)
      have h2 := sm_nonneg (n := n) (f := fun c' => (9 - g (v - n) c') * pt m n s c 2 c') (fun k hk => Int.mul_nonneg (by have := hg (v - n) k (by omega) hk; omega) (hpos k (by omega)))
      rw [show n + (v - n) = v by omega] at h1
      omega
  have h1 := hall (s.2.2.2 c) (SN_col hN hc)
  rw [pt_col hN hc 2 hc, if_pos rfl] at h1
  omega
/-- what a step does to the point and to the goals -/
theorem step_goal {m n : Nat} {g : Nat → Nat → Int} {s : SS} (h : SI m n g s) {c r : Nat} (hE : Ent m n s c) (hL : Lea m n s c r) : Lnn (n + 1) (fun k => s.2.1 * gl m n (exs m n s r c) k - s.1 r c * gl m n s k) ∧ (0 < s.1 r n → Lps (n + 1) (fun k => s.2.1 * gl m n (exs m n s r c) k - s.1 r c * gl m n s k)) := by
  obtain ⟨h', -⟩ := SI_ex h hL.1 hE.1 hL.2.1 (Lea_rat hL)
  have hN := h.1
  have hN' := h'.1
  have hcn : ¬ n = c := by have := hE.1; omega
  have hS := pt_Sol h' hE.1 0
  have hgx : ∀ k, k < n + 1 → gx n (pt m n (exs m n s r c) c 0) k = gl m n (exs m n s r c) k := fun k hk => by
    cases k with
    | zero =>
      have := hS.1
      show sm n (pt m n (exs m n s r c) c 0) = (exs m n s r c).1 m n
      omega
    | succ k =>
      show pt m n (exs m n s r c) c 0 k = sm m (fun i => if (exs m n s r c).2.2.1 i = k then (exs m n s r c).1 i n else 0)
      unfold pt
      simp
  have hxc : ∀ j, j < n → pt m n (exs m n s r c) c 0 (s.2.2.2 j) = if j = c then s.1 r n else 0 := fun j hj => by
    by_cases e : j = c
    · subst e
      have e1 : s.2.2.2 j = (exs m n s r j).2.2.1 r := by simp [exs, upn]
      rw [if_pos rfl, e1, pt_row hN' hE.1 0 hL.1]
      have e2 : (exs m n s r j).1 r n = s.1 r n := by simp [exs, hcn]
      rw [e2]; omega
    · have e1 : s.2.2.2 j = (exs m n s r c).2.2.2 j := by simp [exs, upn, e]
      rw [if_neg e, e1, pt_col hN' hE.1 0 hj, if_neg e]
  have hmain : ∀ k, k < n + 1 → s.1 r n * (- rd m n s c k) = s.2.1 * gl m n (exs m n s r c) k - s.1 r c * gl m n s k := fun k hk => by
    have h1 := SI_goal h hS.2 hk
    rw [sm_one (r := c) hE.1 (fun j hj hne => by rw [hxc j hj, if_neg hne]; simp), hxc c hE.1, if_pos rfl, hgx k hk] at h1
    have e3 : (exs m n s r c).2.1 = s.1 r c := rfl
    rw [e3] at h1
    rw [Int.mul_neg]
    omega
  refine ⟨Lnn_congr hmain (Lnn_mul (h.2.2.2.2.2.2 r hL.1) (Lnn_of_Lps hE.2.1)), fun hp => Lps_congr hmain (Lps_mul hp hE.2.1)⟩
theorem step_point {m n : Nat} {g : Nat → Nat → Int} {s : SS} (h : SI m n g s) {c r : Nat} (hE : Ent m n s c) (hL : Lea m n s c r) (h0 : s.1 r n = 0) {v : Nat} (hv : v < n + m) : s.2.1 * pt m n (exs m n s r c) 0 0 v = s.1 r c * pt m n s 0 0 v := by
  obtain ⟨h', -⟩ := SI_ex h hL.1 hE.1 hL.2.1 (Lea_rat hL)
  have hN := h.1
  have hN' := h'.1
  have hc := hE.1
  have hn0 : 0 < n := by omega
  have hcn : ¬ n = c := by omega
  have hS := pt_Sol h' hn0 0
  have hxc : ∀ j, j < n → pt m n (exs m n s r c) 0 0 (s.2.2.2 j) = 0 := fun j hj => by
    by_cases e : j = c
    · subst e
      have e1 : s.2.2.2 j = (exs m n s r j).2.2.1 r := by simp [exs, upn]
      rw [e1, pt_row hN' hn0 0 hL.1]
      have e2 : (exs m n s r j).1 r n = s.1 r n := by simp [exs, hcn]
      rw [e2]; omega
    · have e1 : s.2.2.2 j = (exs m n s r c).2.2.2 j := by simp [exs, upn, e]
      rw [e1, pt_col hN' hn0 0 hj]
      split <;> omega
  rcases SN_all hN hv with ⟨i, hi, e⟩ | ⟨j, hj, e⟩
  · have h1 := SI_row h hS.2 (i := i) (by omega)
    rw [if_pos hi, sm_zero (n := n) (fun j hj => by rw [hxc j hj]; simp)] at h1
    rw [← e, pt_row hN hn0 0 hi]
    have e3 : (exs m n s r c).2.1 = s.1 r c := rfl
    rw [e3] at h1
    grind
  · rw [← e, hxc j hj, pt_col hN hn0 0 hj]
    split <;> simp
/-- a run of steps -/
def Run (m n : Nat) (s : Nat → SS) (rr cc : Nat → Nat) (b : Nat) : Prop := ∀ k, k < b → Ent m n (s k) (cc k) ∧ Lea m n (s k) (cc k) (rr k) ∧ s (k + 1) = exs m n (s k) (rr k) (cc k)
theorem Run_SI {m n : Nat} {g : Nat → Nat → Int} {s : Nat → SS} {rr cc : Nat → Nat} {b : Nat} (hR : Run m n s rr cc b) (h0 : SI m n g (s 0)) : ∀ k, k ≤ b → SI m n g (s k) := by
  intro k
  induction k with
  | zero => exact fun _ => h0
  | succ k ih =>
    intro hk
    obtain ⟨hE, hL, e⟩ := hR k (by omega)
    rw [e]
    exact (SI_ex (ih (by omega)) hL.1 hE.1 hL.2.1 (Lea_rat hL)).1
def bas (m : Nat) (s : SS) (v : Nat) : Prop := ∃ i, i < m ∧ s.2.2.1 i = v
theorem bas_not {m n : Nat} {s : SS} (h : SN m n s) {v : Nat} (hv : v < n + m) : ¬ bas m s v ↔ ∃ j, j < n ∧ s.2.2.2 j = v := by
  constructor
  · intro q
    rcases SN_all h hv with e | e
    · exact absurd e q
    · exact e
  · rintro ⟨j, hj, e⟩ ⟨i, hi, e2⟩
    exact SN_rc h hi hj (e2.trans e.symm)
theorem frac_chain {m n : Nat} {g : Nat → Nat → Int} {s : Nat → SS} {rr cc : Nat → Nat} {b : Nat} (hR : Run m n s rr cc b) (hI : ∀ k, k ≤ b → SI m n g (s k)) {a : Nat} : ∀ d, a + d ≤ b → Lnn (n + 1) (fun k => (s a).2.1 * gl m n (s (a + d)) k - (s (a + d)).2.1 * gl m n (s a) k) ∧ ((∃ e, e < d ∧ 0 < (s (a + e)).1 (rr (a + e)) n) → Lps (n + 1) (fun k => (s a).2.1 * gl m n (s (a + d)) k - (s (a + d)).2.1 * gl m n (s a) k)) := by
  intro d
  induction d with
  | zero =>
    intro _
    refine ⟨Lnn_zero (fun k _ => ?_), ?_⟩
    · show (s a).2.1 * gl m n (s a) k - (s a).2.1 * gl m n (s a) k = 0
      omega
    · rintro ⟨e, he, -⟩; omega
  | succ d ih =>
    intro hd
    obtain ⟨ih1, ih2⟩ := ih (by omega)
    obtain ⟨hE, hL, e⟩ := hR (a + d) (by omega)
    have hst := step_goal (hI (a + d) (by omega)) hE hL
    rw [← e] at hst
    have e3 : (s (a + d + 1)).2.1 = (s (a + d)).1 (rr (a + d)) (cc (a + d)) := by rw [e]; rfl
    rw [← e3] at hst
    have hpa := (hI a (by omega)).2.2.2.1
    have hpd := (hI (a + d) (by omega)).2.2.2.1
    have hpe := (hI (a + d + 1) (by omega)).2.2.2.1
    have hcomb : ∀ k, k < n + 1 → (s a).2.1 * ((s (a + d)).2.1 * gl m n (s (a + d + 1)) k - (s (a + d + 1)).2.1 * gl m n (s (a + d)) k) + (s (a + d + 1)).2.1 * ((s a).2.1 * gl m n (s (a + d)) k - (s (a + d)).2.1 * gl m n (s a) k) = (s (a + d)).2.1 * ((s a).2.1 * gl m n (s (a + d + 1)) k - (s (a + d + 1)).2.1 * gl m n (s a) k) := fun k _ => by grind
    have hcomb2 : ∀ k, k < n + 1 → (s (a + d + 1)).2.1 * ((s a).2.1 * gl m n (s (a + d)) k - (s (a + d)).2.1 * gl m n (s a) k) + (s a).2.1 * ((s (a + d)).2.1 * gl m n (s (a + d + 1)) k - (s (a + d + 1)).2.1 * gl m n (s (a + d)) k) = (s (a + d)).2.1 * ((s a).2.1 * gl m n (s (a + d + 1)) k - (s (a + d + 1)).2.1 * gl m n (s a) k) := fun k _ => by grind
    refine ⟨Lnn_of_mul hpd (Lnn_congr hcomb (Lnn_add (Lnn_mul (Int.le_of_lt hpa) hst.1) (Lnn_mul (Int.le_of_lt hpe) ih1))), ?_⟩
    rintro ⟨e', he', hp⟩
    by_cases hlast : e' = d
    · subst hlast
      exact Lps_of_mul hpd (Lps_congr hcomb (Lps_add (Lps_mul hpa (hst.2 hp)) (Lnn_mul (Int.le_of_lt hpe) ih1)))
    · exact Lps_of_mul hpd (Lps_congr hcomb2 (Lps_add (Lps_mul hpe (ih2 ⟨e', by omega, hp⟩)) (Lnn_mul (Int.le_of_lt hpa) hst.1)))
theorem gl_pt {m n : Nat} {g : Nat → Nat → Int} {s : SS} (h : SI m n g s) (hn : 0 < n) {k : Nat} (hk : k < n + 1) : gx n (pt m n s 0 0) k = gl m n s k := by
  cases k with
  | zero =>
    have := (pt_Sol h hn 0).1
    show sm n (pt m n s 0 0) = s.1 m n
    omega
  | succ k =>
    show pt m n s 0 0 k = sm m (fun i => if s.2.2.1 i = k then s.1 i n else 0)
    unfold pt
    simp
/-- two tables with the same names in the rows: one point -/
theorem same_point {m n : Nat} {g : Nat → Nat → Int} {s s' : SS} (h : SI m n g s) (h' : SI m n g s') (hn : 0 < n) (hb : ∀ v, v < n + m → bas m s' v → bas m s v) {v : Nat} (hv : v < n + m) : s.2.1 * pt m n s' 0 0 v = s'.2.1 * pt m n s 0 0 v := by
  have hS := pt_Sol h' hn 0
  have hxc : ∀ j, j < n → pt m n s' 0 0 (s.2.2.2 j) = 0 := fun j hj => by
    have h1 : ¬ bas m s (s.2.2.2 j) := (bas_not h.1 (SN_col h.1 hj)).mpr ⟨j, hj, rfl⟩
    have h2 : ¬ bas m s' (s.2.2.2 j) := fun q => h1 (hb _ (SN_col h.1 hj) q)
    obtain ⟨j', hj', e⟩ := (bas_not h'.1 (SN_col h.1 hj)).mp h2
    rw [← e, pt_col h'.1 hn 0 hj']
    split <;> omega
  rcases SN_all h.1 hv with ⟨i, hi, e⟩ | ⟨j, hj, e⟩
  · have h1 := SI_row h hS.2 (i := i) (by omega)
    rw [if_pos hi, sm_zero (n := n) (fun j hj => by rw [hxc j hj]; simp)] at h1
    rw [← e, pt_row h.1 hn 0 hi]
    grind
  · rw [← e, hxc j hj, pt_col h.1 hn 0 hj]
    split <;> simp
/-- the one step: a name that leaves in one table and enters in another, both at one point -/
theorem bland_core {m n : Nat} {g : Nat → Nat → Int} {s s' : SS} (h : SI m n g s) (h' : SI m n g s') {c r c' : Nat} (hE : Ent m n s c) (hL : Lea m n s c r) (hE' : Ent m n s' c') (ht : s.2.2.1 r = s'.2.2.2 c')
    (hbig : ∀ v, v < n + m → s'.2.2.2 c' < v → (bas m s v ↔ bas m s' v)) (hcs : s.2.2.2 c < s'.2.2.2 c')
    (hfz : ∀ v, v < n + m → bas m s v → ¬ bas m s' v → ∀ i, i < m → s.2.2.1 i = v → s.1 i n = 0) : False := by
  have hN := h.1
  have hN' := h'.1
  have hc := hE.1
  have hD0 := h.2.2.2.1
  have hD0' := h'.2.2.2.1
  have hn0 : 0 < n := by omega
  have hS1 := pt_Sol h hc 1
  have hS0 := pt_Sol h hc 0
  -- goals of the two points, by the first table
  have hdiff : ∀ k, k < n + 1 → gx n (pt m n s c 1) k - gx n (pt m n s c 0) k = - rd m n s c k := fun k hk => by
    have e1 := SI_goal h hS1.2 hk
    have e0 := SI_goal h hS0.2 hk
    rw [sm_one (r := c) hc (fun j hj hne => by rw [pt_col hN hc _ hj, if_neg hne]; simp), pt_col hN hc _ hc, if_pos rfl] at e1 e0
    have e2 : s.2.1 * (gx n (pt m n s c 1) k - gx n (pt m n s c 0) k) = s.2.1 * (- rd m n s c k) := by grind
    exact Int.eq_of_mul_eq_mul_left (by omega) e2
  -- by the second one
  have hvec : ∀ k, k < n + 1 → s'.2.1 * rd m n s c k = sm n (fun j => (pt m n s c 1 (s'.2.2.2 j) - pt m n s c 0 (s'.2.2.2 j)) * rd m n s' j k) := fun k hk => by
    have e1 := SI_goal h' hS1.2 hk
    have e0 := SI_goal h' hS0.2 hk
    have e2 := hdiff k hk
    rw [sm_congr (n := n) (g := fun j => pt m n s c 1 (s'.2.2.2 j) * rd m n s' j k - pt m n s c 0 (s'.2.2.2 j) * rd m n s' j k) (fun j _ => Int.sub_mul _ _ _), sm_sub]
    grind
  -- each term
  have hterm : ∀ j, j < n → j ≠ c' → Lnn (n + 1) (fun k => (pt m n s c 1 (s'.2.2.2 j) - pt m n s c 0 (s'.2.2.2 j)) * rd m n s' j k) := fun j hj hne => by
    have hvj := SN_col hN' hj
    have hnb' : ¬ bas m s' (s'.2.2.2 j) := (bas_not hN' hvj).mpr ⟨j, hj, rfl⟩
    by_cases hlt : s'.2.2.2 j < s'.2.2.2 c'
    · have hr' : Lnn (n + 1) (rd m n s' j) := by
        rcases Lnn_tot (L := n + 1) (f := rd m n s' j) with q | q
        · exact q
        · have := hE'.2.2 j hj q
          omega
      refine Lnn_mul ?_ hr'
      rcases SN_all hN hvj with ⟨i, hi, e⟩ | ⟨j2, hj2, e⟩
      · rw [← e, pt_row hN hc 1 hi, pt_row hN hc 0 hi]
        have hz := hfz _ hvj ⟨i, hi, e⟩ hnb' i hi e
        have hzr : s.1 r n = 0 := by
          refine hfz (s.2.2.1 r) (SN_row hN hL.1) ⟨r, hL.1, rfl⟩ ?_ r hL.1 rfl
          rw [ht]
          exact (bas_not hN' (SN_col hN' hE'.1)).mpr ⟨c', hE'.1, rfl⟩
        have hle : s.1 i c ≤ 0 := by
          apply Classical.byContradiction
          intro q
          rcases hL.2.2 i hi (by omega) with q2 | ⟨-, q2⟩
          · rw [hz, hzr] at q2; simp at q2
          · rw [ht, e] at q2; omega
        omega
      · rw [← e, pt_col hN hc 1 hj2, pt_col hN hc 0 hj2]
        split <;> omega
    · have hgt : s'.2.2.2 c' < s'.2.2.2 j := by
        have := SN_cc hN' hj hE'.1 hne
        omega
      have hnb : ¬ bas m s (s'.2.2.2 j) := fun q => hnb' ((hbig _ hvj hgt).mp q)
      obtain ⟨j2, hj2, e⟩ := (bas_not hN hvj).mp hnb
      have hj2c : j2 ≠ c := fun q => by rw [q] at e; omega
      exact Lnn_zero (fun k _ => by rw [← e, pt_col hN hc 1 hj2, pt_col hN hc 0 hj2, if_neg hj2c, if_neg hj2c]; simp)
  have hlead : Lps (n + 1) (fun k => (pt m n s c 1 (s'.2.2.2 c') - pt m n s c 0 (s'.2.2.2 c')) * rd m n s' c' k) := by
    refine Lps_congr (f := fun k => s.1 r c * (- rd m n s' c' k)) (fun k _ => ?_) (Lps_mul hL.2.1 hE'.2.1)
    rw [← ht, pt_row hN hc 1 hL.1, pt_row hN hc 0 hL.1]
    grind
  have hall : Lps (n + 1) (fun k => sm n (fun j => (pt m n s c 1 (s'.2.2.2 j) - pt m n s c 0 (s'.2.2.2 j)) * rd m n s' j k)) := by
    refine Lps_congr (f := fun k => (pt m n s c 1 (s'.2.2.2 c') - pt m n s c 0 (s'.2.2.2 c')) * rd m n s' c' k + sm n (fun j => (if j = c' then 0 else (pt m n s c 1 (s'.2.2.2 j) - pt m n s c 0 (s'.2.2.2 j))) * rd m n s' j k)) (fun k _ => ?_) (Lps_add hlead (Lnn_sm n _ _ (fun j hj => ?_)))
    · have e := sm_upd (n := n) (r := c') (fun j => (pt m n s c 1 (s'.2.2.2 j) - pt m n s c 0 (s'.2.2.2 j)) * rd m n s' j k) 0 hE'.1
      rw [sm_congr (n := n) (g := fun j => if j = c' then 0 else (pt m n s c 1 (s'.2.2.2 j) - pt m n s c 0 (s'.2.2.2 j)) * rd m n s' j k) (fun j _ => by split <;> simp), e]
      omega
    · by_cases e : j = c'
      · exact Lnn_zero (fun k _ => by rw [if_pos e]; simp)
      · rw [if_neg e]; exact hterm j hj e
  have hneg : Lps (n + 1) (fun k => - (s'.2.1 * rd m n s c k)) := Lps_congr (f := fun k => s'.2.1 * (- rd m n s c k)) (fun k _ => Int.mul_neg _ _) (Lps_mul hD0' hE.2.1)
  exact Lps_not_Lnn hneg (Lnn_of_Lps (Lps_congr (fun k hk => (hvec k hk).symm) hall))
/-- between two times at which a thing is not the same, a time at which it changes -/
theorem turn_on {p : Nat → Prop} : ∀ (d a : Nat), ¬ p a → p (a + d) → ∃ k, a ≤ k ∧ k < a + d ∧ ¬ p k ∧ p (k + 1)
  | 0, a, h1, h2 => absurd h2 h1
  | d + 1, a, h1, h2 => by
    by_cases h : p (a + d)
    · obtain ⟨k, hk1, hk2, hk3, hk4⟩ := turn_on d a h1 h
      exact ⟨k, hk1, by omega, hk3, hk4⟩
    · exact ⟨a + d, by omega, by omega, h, h2⟩
theorem turn_off {p : Nat → Prop} : ∀ (d a : Nat), p a → ¬ p (a + d) → ∃ k, a ≤ k ∧ k < a + d ∧ p k ∧ ¬ p (k + 1)
  | 0, a, h1, h2 => absurd h1 h2
  | d + 1, a, h1, h2 => by
    by_cases h : p (a + d)
    · exact ⟨a + d, by omega, by omega, h, h2⟩
    · obtain ⟨k, hk1, hk2, hk3, hk4⟩ := turn_off d a h1 h
      exact ⟨k, hk1, by omega, hk3, hk4⟩
/-- of those below a bound that have a thing, the greatest -/
theorem greatest {p : Nat → Prop} : ∀ (N : Nat), (∃ v, v < N ∧ p v) → ∃ v, v < N ∧ p v ∧ ∀ w, w < N → p w → w ≤ v
  | 0, h => by obtain ⟨v, hv, -⟩ := h; omega
  | N + 1, h => by
    by_cases hN : p N
    · exact ⟨N, by omega, hN, fun w hw _ => by omega⟩
    · obtain ⟨v, hv, hp⟩ := h
      have hvN : v ≠ N := fun q => hN (q ▸ hp)
      obtain ⟨v2, h1, h2, h3⟩ := greatest N ⟨v, by omega, hp⟩
      exact ⟨v2, by omega, h2, fun w hw hpw => h3 w (by have : w ≠ N := fun q => hN (q ▸ hpw); omega) hpw⟩
theorem step_bas {m n : Nat} {s : SS} (h : SN m n s) {r c : Nat} (hr : r < m) (hc : c < n) {v : Nat} : (bas m s v → ¬ bas m (exs m n s r c) v → v = s.2.2.1 r) ∧ (¬ bas m s v → bas m (exs m n s r c) v → v = s.2.2.2 c) := by
  constructor
  · rintro ⟨i, hi, e⟩ hno
    by_cases h1 : i = r
    · subst h1; exact e.symm
    · exact absurd ⟨i, hi, by show upn s.2.2.1 r (s.2.2.2 c) i = v; unfold upn; rw [if_neg h1]; exact e⟩ hno
  · rintro hno ⟨i, hi, e⟩
    have e' : upn s.2.2.1 r (s.2.2.2 c) i = v := e
    unfold upn at e'
    by_cases h1 : i = r
    · rw [if_pos h1] at e'; exact e'.symm
    · rw [if_neg h1] at e'; exact absurd ⟨i, hi, e'⟩ hno
theorem no_again {m n : Nat} {g : Nat → Nat → Int} {s : Nat → SS} {rr cc : Nat → Nat} {b : Nat} (hn : 0 < n) (hR : Run m n s rr cc b) (hI : ∀ k, k ≤ b → SI m n g (s k)) {a e : Nat} (hab : a < e) (heb : e ≤ b) (hsame : ∀ v, v < n + m → (bas m (s a) v ↔ bas m (s e) v)) : False := by
  -- all steps between move nothing
  have hprop : ∀ v, v < n + m → (s a).2.1 * pt m n (s e) 0 0 v = (s e).2.1 * pt m n (s a) 0 0 v := fun v hv => same_point (hI a (by omega)) (hI e heb) hn (fun w hw q => (hsame w hw).mpr q) hv
  have hglz : ∀ k, k < n + 1 → (s a).2.1 * gl m n (s e) k - (s e).2.1 * gl m n (s a) k = 0 := fun k hk => by
    rw [← gl_pt (hI a (by omega)) hn hk, ← gl_pt (hI e heb) hn hk]
    cases k with
    | zero =>
      show (s a).2.1 * sm n (pt m n (s e) 0 0) - (s e).2.1 * sm n (pt m n (s a) 0 0) = 0
      rw [← sm_mul, ← sm_mul, sm_congr (n := n) (g := fun k => (s e).2.1 * pt m n (s a) 0 0 k) (fun k hk => hprop k (by omega))]
      omega
    | succ k =>
      have := hprop k (by omega)
      show (s a).2.1 * pt m n (s e) 0 0 k - (s e).2.1 * pt m n (s a) 0 0 k = 0
      omega
  have hdeg : ∀ k, a ≤ k → k < e → (s k).1 (rr k) n = 0 := fun k hak hke => by
    have h0 := (hI k (by omega)).2.2.2.2.2.2 (rr k) (hR k (by omega)).2.1.1
    apply Classical.byContradiction
    intro q
    have h1 := (frac_chain hR hI (a := a) (e - a) (by omega)).2 ⟨k - a, by omega, by
      rw [show a + (k - a) = k by omega]; omega⟩
    rw [show a + (e - a) = e by omega] at h1
    exact Lps_not_Lnn (f := fun k => - ((s a).2.1 * gl m n (s e) k - (s e).2.1 * gl m n (s a) k)) (Lps_congr (fun k _ => by omega) h1) (Lnn_zero (fun k hk => by rw [hglz k hk]; rfl))
  -- so all are at one point
  have hpt : ∀ d, a + d ≤ e → ∀ v, v < n + m → (s a).2.1 * pt m n (s (a + d)) 0 0 v = (s (a + d)).2.1 * pt m n (s a) 0 0 v := by
    intro d
    induction d with
    | zero => intro _ v _; rfl
    | succ d ih =>
      intro hd v hv
      obtain ⟨hE, hL, he⟩ := hR (a + d) (by omega)
      have h1 := step_point (hI (a + d) (by omega)) hE hL (hdeg (a + d) (by omega) (by omega)) hv
      rw [← he] at h1
      have e3 : (s (a + d + 1)).2.1 = (s (a + d)).1 (rr (a + d)) (cc (a + d)) := by rw [he]; rfl
      rw [← e3] at h1
      have h2 := ih (by omega) v hv
      have hpd := (hI (a + d) (by omega)).2.2.2.1
      have h3 : (s (a + d)).2.1 * ((s a).2.1 * pt m n (s (a + d + 1)) 0 0 v) = (s (a + d)).2.1 * ((s (a + d + 1)).2.1 * pt m n (s a) 0 0 v) := by grind
      exact Int.eq_of_mul_eq_mul_left (by omega) h3
  have hzero : ∀ k, a ≤ k → k ≤ e → ∀ v, v < n + m → pt m n (s a) 0 0 v = 0 → ∀ i, i < m → (s k).2.2.1 i = v → (s k).1 i n = 0 := fun k hak hke v hv hz i hi he => by
    have h1 := hpt (k - a) (by omega) v hv
    rw [show a + (k - a) = k by omega, hz, ← he, pt_row (hI k (by omega)).1 hn 0 hi] at h1
    have hpa := (hI a (by omega)).2.2.2.1
    have h2 : (s a).2.1 * ((s k).1 i n - (s k).1 i 0 * 0) = 0 := by rw [h1]; simp
    rcases Int.mul_eq_zero.mp h2 with q | q
    · omega
    · omega
  have hnbz : ∀ k, a ≤ k → k ≤ e → ∀ v, v < n + m → ¬ bas m (s k) v → pt m n (s a) 0 0 v = 0 := fun k hak hke v hv hnb => by
    obtain ⟨j, hj, he⟩ := (bas_not (hI k (by omega)).1 hv).mp hnb
    have h1 := hpt (k - a) (by omega) v hv
    rw [show a + (k - a) = k by omega, ← he, pt_col (hI k (by omega)).1 hn 0 hj] at h1
    have hpk := (hI k (by omega)).2.2.2.1
    have h2 : (s k).2.1 * pt m n (s a) 0 0 ((s k).2.2.2 j) = 0 := by
      rw [← h1]; split <;> simp
    rcases Int.mul_eq_zero.mp h2 with q | q
    · omega
    · rw [← he]; exact q
  -- the greatest name that changes its place
  let fick : Nat → Prop := fun v => ∃ k k', a ≤ k ∧ k ≤ e ∧ a ≤ k' ∧ k' ≤ e ∧ bas m (s k) v ∧ ¬ bas m (s k') v
  obtain ⟨hEa, hLa, hea⟩ := hR a (by omega)
  have hfc : ∀ k, a ≤ k → k < e → fick ((s k).2.2.2 (cc k)) := fun k hak hke => by
    obtain ⟨hE, hL, he⟩ := hR k (by omega)
    refine ⟨k + 1, k, by omega, by omega, hak, by omega, ⟨rr k, hL.1, ?_⟩, (bas_not (hI k (by omega)).1 (SN_col (hI k (by omega)).1 hE.1)).mpr ⟨cc k, hE.1, rfl⟩⟩
    rw [he]
    show upn (s k).2.2.1 (rr k) ((s k).2.2.2 (cc k)) (rr k) = _
    unfold upn
    rw [if_pos rfl]
  obtain ⟨t, htN, ⟨k1, k2, h1a, h1b, h2a, h2b, hb1, hb2⟩, hmax⟩ := greatest (p := fick) (n + m) ⟨_, SN_col (hI a (by omega)).1 hEa.1, hfc a (by omega) (by omega)⟩
  have hout : ∃ k, a ≤ k ∧ k < e ∧ bas m (s k) t ∧ ¬ bas m (s (k + 1)) t := by
    by_cases ha : bas m (s a) t
    · obtain ⟨k, q1, q2, q3, q4⟩ := turn_off (p := fun k => bas m (s k) t) (k2 - a) a ha (by
        rw [show a + (k2 - a) = k2 by omega]; exact hb2)
      exact ⟨k, q1, by omega, q3, q4⟩
    · obtain ⟨k, q1, q2, q3, q4⟩ := turn_off (p := fun k => bas m (s k) t) (e - k1) k1 hb1 (by
        rw [show k1 + (e - k1) = e by omega]; exact fun q => ha ((hsame t htN).mpr q))
      exact ⟨k, by omega, by omega, q3, q4⟩
  have hin : ∃ k, a ≤ k ∧ k < e ∧ ¬ bas m (s k) t ∧ bas m (s (k + 1)) t := by
    by_cases ha : bas m (s a) t
    · obtain ⟨k, q1, q2, q3, q4⟩ := turn_on (p := fun k => bas m (s k) t) (e - k2) k2 hb2 (by
        rw [show k2 + (e - k2) = e by omega]; exact (hsame t htN).mp ha)
      exact ⟨k, by omega, by omega, q3, q4⟩
    · obtain ⟨k, q1, q2, q3, q4⟩ := turn_on (p := fun k => bas m (s k) t) (k1 - a) a ha (by
        rw [show a + (k1 - a) = k1 by omega]; exact hb1)
      exact ⟨k, q1, by omega, q3, q4⟩
  obtain ⟨ko, ho1, ho2, ho3, ho4⟩ := hout
  obtain ⟨ki, hi1, hi2, hi3, hi4⟩ := hin
  obtain ⟨hE, hL, he⟩ := hR ko (by omega)
  obtain ⟨hE', hL', he'⟩ := hR ki (by omega)
  rw [he] at ho4
  rw [he'] at hi4
  have et : t = (s ko).2.2.1 (rr ko) := (step_bas (hI ko (by omega)).1 hL.1 hE.1).1 ho3 ho4
  have et' : t = (s ki).2.2.2 (cc ki) := (step_bas (hI ki (by omega)).1 hL'.1 hE'.1).2 hi3 hi4
  have hnfix : ∀ v, v < n + m → ¬ fick v → (bas m (s ko) v ↔ bas m (s ki) v) := fun v hv hnf => by
    constructor
    · intro q
      apply Classical.byContradiction
      intro q2
      exact hnf ⟨ko, ki, by omega, by omega, by omega, by omega, q, q2⟩
    · intro q
      apply Classical.byContradiction
      intro q2
      exact hnf ⟨ki, ko, by omega, by omega, by omega, by omega, q, q2⟩
  refine bland_core (hI ko (by omega)) (hI ki (by omega)) hE hL hE' (et.symm.trans et') (fun v hv hgt => hnfix v hv (fun q => ?_)) ?_ (fun v hv hbv hnbv i hi hev => ?_)
  · have := hmax v hv q
    omega
  · have h1 := hmax _ (SN_col (hI ko (by omega)).1 hE.1) (hfc ko (by omega) (by omega))
    have h2 : (s ko).2.2.2 (cc ko) ≠ t := fun q => SN_rc (hI ko (by omega)).1 hL.1 hE.1 (et.symm.trans q.symm)
    omega
  · exact hzero ko (by omega) (by omega) v hv (hnbz ki (by omega) (by omega) v hv hnbv) i hi hev
