/-! ===== the best corner is the last table's point ===== -/
theorem Lnn_both : ∀ {L : Nat} {f : Nat → Int}, Lnn L f → Lnn L (fun k => - f k) → ∀ k, k < L → f k = 0
  | 0, _, _, _, k, hk => by omega
  | L + 1, f, h1, h2, k, hk => by
    have h0 : f 0 = 0 := by
      rcases h1 with a | a <;> rcases h2 with b | b
      · have : 0 < - f 0 := b
        omega
      · have : - f 0 = 0 := b.1
        omega
      · have : 0 < - f 0 := b
        have := a.1
        omega
      · exact a.1
    cases k with
    | zero => exact h0
    | succ k =>
      have h1' : Lnn L (fun k => f (k + 1)) := by
        rcases h1 with a | a
        · omega
        · exact a.2
      have h2' : Lnn L (fun k => - f (k + 1)) := by
        rcases h2 with a | a
        · have : 0 < - f 0 := a
          omega
        · exact a.2
      exact Lnn_both h1' h2' k (by omega)
/-- a corner: value first, then shares; what they are to be divided by -/
def ab (a : Int) : Int := if a < 0 then - a else a
def sgi (a : Int) : Int := if 0 < a then 1 else -1
def kap (k n : Nat) (g : Nat → Nat → Int) (ii jj : Nat → Nat) : Nat → Int
  | 0 => sgi (kd k g ii jj) * kz k g ii jj k
  | i + 1 => sm k (fun c => if ii c = i then sgi (kd k g ii jj) * kz k g ii jj c else 0)
def kb (k : Nat) (g : Nat → Nat → Int) (ii jj : Nat → Nat) : Int := sgi (kd k g ii jj) * kd k g ii jj
theorem kb_pos {k : Nat} {g : Nat → Nat → Int} {ii jj : Nat → Nat} (h : kd k g ii jj ≠ 0) : 0 < kb k g ii jj := by
  unfold kb sgi
  split <;> omega
def lawful (m n : Nat) (g : Nat → Nat → Int) (f : Nat → Int) : Prop := (∀ i, i < n → 0 ≤ f (i + 1)) ∧ ∀ j, j < m → f 0 ≤ sm n (fun i => f (i + 1) * g j i)
/-- the last table's own row of numbers -/
def kst (m n : Nat) (s : SS) : Nat → Int
  | 0 => 9 * s.1 m n - s.2.1
  | i + 1 => gl m n s (i + 1)
def optm (m n : Nat) (g : Nat → Nat → Int) (s : SS) : Prop := SI m n g s ∧ ∀ j, j < n → Lnn (n + 1) (rd m n s j)
theorem opt_X {m n : Nat} {g : Nat → Nat → Int} {s : SS} (h : optm m n g s) (hn : 0 < n) (hg : ∀ r c, r < m → c < n → - 8 ≤ g r c ∧ g r c ≤ 8) : 0 < s.1 m n := by
  have hS : Sol m n g (fun v => if v < n then (if v = 0 then 1 else 0) else 8 + g (v - n) 0) 17 := fun r hr => by
    have e1 : sm n (fun c => (9 - g r c) * (if c < n then (if c = 0 then 1 else 0) else 8 + g (c - n) 0)) = 9 - g r 0 := by
      rw [sm_one (r := 0) hn (fun c hc hne => by rw [if_pos hc, if_neg hne]; simp), if_pos hn, if_pos rfl]
      omega
    rw [e1]
    show 9 - g r 0 + (if n + r < n then _ else 8 + g (n + r - n) 0) = 17
    rw [if_neg (by omega), show n + r - n = r by omega]
    omega
  have h1 := SI_opt h.1 h.2 hS (fun v hv => by
    show 0 ≤ if v < n then (if v = 0 then (1 : Int) else 0) else 8 + g (v - n) 0
    by_cases hvn : v < n
    · rw [if_pos hvn]; split <;> decide
    · rw [if_neg hvn]
      have := hg (v - n) 0 (by omega) hn
      omega)
  have hsum : sm n (fun v => if v < n then (if v = 0 then (1 : Int) else 0) else 8 + g (v - n) 0) = 1 := by
    rw [sm_one (r := 0) hn (fun c hc hne => by rw [if_pos hc, if_neg hne]), if_pos hn, if_pos rfl]
  have hD0 := h.1.2.2.2.1
  have h2 : 0 ≤ 17 * s.1 m n - s.2.1 * 1 := by
    rcases h1 with q | q
    · have q' : 0 < 17 * s.1 m n - s.2.1 * sm n (fun v => if v < n then (if v = 0 then (1 : Int) else 0) else 8 + g (v - n) 0) := q
      rw [hsum] at q'
      omega
    · have q' : 17 * s.1 m n - s.2.1 * sm n (fun v => if v < n then (if v = 0 then (1 : Int) else 0) else 8 + g (v - n) 0) = 0 := q.1
      rw [hsum] at q'
      omega
  omega
/-- a lawful corner is no better -/
theorem opt_ge {k m n : Nat} {g : Nat → Nat → Int} {s : SS} (h : optm m n g s) (hn : 0 < n) (hg : ∀ r c, r < m → c < n → - 8 ≤ g r c ∧ g r c ≤ 8) {ii jj : Nat → Nat} (hii : ∀ c, c < k → ii c < n) (hD : kd k g ii jj ≠ 0) (hl : lawful m n g (kap k n g ii jj)) : Lnn (n + 1) (fun t => kst m n s t * kb k g ii jj - kap k n g ii jj t * s.1 m n) := by
  have hX := opt_X h hn hg
  obtain ⟨hsum, -⟩ := kz_sum hD
  obtain ⟨hS, hs2⟩ := ly_Sol (m := m) (g := g) (z := fun c => sgi (kd k g ii jj) * kz k g ii jj c) hii
  have hb : sm k (fun c => sgi (kd k g ii jj) * kz k g ii jj c) = kb k g ii jj := by
    rw [sm_mul]
    show sgi (kd k g ii jj) * sm k (kz k g ii jj) = _
    rw [hsum]; rfl
  rw [hb] at hS hs2
  have hly : ∀ v, v < n → ly k n g ii (fun c => sgi (kd k g ii jj) * kz k g ii jj c) v = kap k n g ii jj (v + 1) := fun v hv => by
    unfold ly
    rw [if_pos hv]
    rfl
  have h1 := SI_opt h.1 h.2 hS (fun v hv => by
    by_cases hvn : v < n
    · rw [hly v hvn]; exact hl.1 v hvn
    · have h2 := hl.2 (v - n) (by omega)
      have e3 := ly_sum (g := g) (z := fun c => sgi (kd k g ii jj) * kz k g ii jj c) hii (fun i => g (v - n) i)
      have e4 : sm n (fun i => g (v - n) i * ly k n g ii (fun c => sgi (kd k g ii jj) * kz k g ii jj c) i) = sm n (fun i => kap k n g ii jj (i + 1) * g (v - n) i) := sm_congr (fun i hi => by rw [hly i hi, Int.mul_comm])
      unfold ly
      rw [if_neg hvn]
      show 0 ≤ sm k (fun c => sgi (kd k g ii jj) * kz k g ii jj c * g (v - n) (ii c)) - sgi (kd k g ii jj) * kz k g ii jj k
      rw [e4] at e3
      have e5 : sm k (fun c => sgi (kd k g ii jj) * kz k g ii jj c * g (v - n) (ii c)) = sm k (fun c => g (v - n) (ii c) * (sgi (kd k g ii jj) * kz k g ii jj c)) := sm_congr (fun c _ => Int.mul_comm _ _)
      rw [e5, ← e3]
      have h3 : kap k n g ii jj 0 = sgi (kd k g ii jj) * kz k g ii jj k := rfl
      omega)
  have hval : kap k n g ii jj 0 = sgi (kd k g ii jj) * kz k g ii jj k := rfl
  rw [← hval] at h1
  have e0 : (9 * kb k g ii jj - kap k n g ii jj 0) * s.1 m n - s.2.1 * kb k g ii jj = kst m n s 0 * kb k g ii jj - kap k n g ii jj 0 * s.1 m n := by
    show _ = (9 * s.1 m n - s.2.1) * kb k g ii jj - _
    grind
  rcases h1 with q | ⟨q1, q2⟩
  · left
    have q' : 0 < (9 * kb k g ii jj - kap k n g ii jj 0) * s.1 m n - s.2.1 * sm n (ly k n g ii (fun c => sgi (kd k g ii jj) * kz k g ii jj c)) := q
    rw [hs2] at q'
    show 0 < kst m n s 0 * kb k g ii jj - kap k n g ii jj 0 * s.1 m n
    omega
  · right
    have q' : (9 * kb k g ii jj - kap k n g ii jj 0) * s.1 m n - s.2.1 * sm n (ly k n g ii (fun c => sgi (kd k g ii jj) * kz k g ii jj c)) = 0 := q1
    rw [hs2] at q'
    refine ⟨by show kst m n s 0 * kb k g ii jj - kap k n g ii jj 0 * s.1 m n = 0; omega, ?_⟩
    have hD0 := h.1.2.2.2.1
    refine Lnn_of_mul hD0 (Lnn_congr (fun t ht => ?_) (Lnn_mul (Int.le_of_lt hX) q2))
    show s.1 m n * ((9 * kb k g ii jj - kap k n g ii jj 0) * gl m n s (t + 1) - s.2.1 * ly k n g ii (fun c => sgi (kd k g ii jj) * kz k g ii jj c) t) = s.2.1 * (gl m n s (t + 1) * kb k g ii jj - kap k n g ii jj (t + 1) * s.1 m n)
    rw [hly t ht]
    grind
/-- the corner that the last table tells is lawful, and is its point -/
theorem opt_is {k m n : Nat} {g : Nat → Nat → Int} {s : SS} (h : optm m n g s) (hX : 0 < s.1 m n) {ii jj : Nat → Nat} (hT : Tells m n k s ii jj) : kd k g ii jj ≠ 0 ∧ (∀ t, t < n + 1 → (∀ v, v < n → bas m s v → ∃ c, c < k ∧ ii c = v) → kap k n g ii jj t * s.1 m n = kst m n s t * kb k g ii jj) ∧ lawful m n g (kap k n g ii jj) := by
  have hD := Tells_ne h.1 hX hT
  obtain ⟨h1, h2, h3⟩ := Tells_vals h.1 hX hT
  have hsq : ∀ a : Int, sgi (kd k g ii jj) * a * sgi (kd k g ii jj) = a := fun a => by
    unfold sgi; split <;> omega
  have hF : ∀ i, 0 ≤ gl m n s (i + 1) := fun i => by
    show 0 ≤ sm m (fun i' => if s.2.2.1 i' = i then s.1 i' n else 0)
    exact sm_nonneg (fun i' hi' => by
      split
      · exact h.1.2.2.2.2.2.2 i' hi'
      · exact Int.le_refl 0)
  have hkb := kb_pos hD
  have hshare : ∀ c, c < k → 0 ≤ sgi (kd k g ii jj) * kz k g ii jj c := fun c hc => by
    have e : sgi (kd k g ii jj) * kz k g ii jj c * s.1 m n = gl m n s (ii c + 1) * kb k g ii jj := by
      have := h1 c hc
      unfold kb
      grind
    have h4 : 0 ≤ sgi (kd k g ii jj) * kz k g ii jj c * s.1 m n := by
      rw [e]; exact Int.mul_nonneg (hF _) (Int.le_of_lt hkb)
    exact Int.nonneg_of_mul_nonneg_left h4 hX
  refine ⟨hD, fun t ht hall => ?_, fun i hi => ?_, fun j hj => ?_⟩
  · cases t with
    | zero =>
      show sgi (kd k g ii jj) * kz k g ii jj k * s.1 m n = (9 * s.1 m n - s.2.1) * (sgi (kd k g ii jj) * kd k g ii jj)
      grind
    | succ i =>
      show sm k (fun c => if ii c = i then sgi (kd k g ii jj) * kz k g ii jj c else 0) * s.1 m n = gl m n s (i + 1) * (sgi (kd k g ii jj) * kd k g ii jj)
      by_cases hex : ∃ c, c < k ∧ ii c = i
      · obtain ⟨c, hc, e⟩ := hex
        rw [sm_one (r := c) hc (fun d hd hne => if_neg (fun q => hT.2.1 d c hd hc hne (q.trans e.symm))), if_pos e]
        have := h1 c hc
        rw [e] at this
        grind
      · rw [sm_zero (n := k) (fun c hc => if_neg (fun q => hex ⟨c, hc, q⟩))]
        have hnb : ¬ bas m s i := fun q => hex (hall i (by omega) q)
        have e6 : gl m n s (i + 1) = 0 := by
          show sm m (fun i' => if s.2.2.1 i' = i then s.1 i' n else 0) = 0
          exact sm_zero (fun i' hi' => if_neg (fun q => hnb ⟨i', hi', q⟩))
        rw [e6]; simp
  · show 0 ≤ sm k (fun c => if ii c = i then sgi (kd k g ii jj) * kz k g ii jj c else 0)
    exact sm_nonneg (fun c hc => by
      split
      · exact hshare c hc
      · exact Int.le_refl 0)
  · have h4 := h3 j hj
    have e7 : sm n (fun i => kap k n g ii jj (i + 1) * g j i) = sgi (kd k g ii jj) * sm k (fun c => kz k g ii jj c * g j (ii c)) := by
      have e3 := ly_sum (g := g) (z := fun c => sgi (kd k g ii jj) * kz k g ii jj c) (fun c hc => (hT.1 c hc).1) (fun i => g j i)
      rw [← sm_mul]
      have e8 : sm n (fun i => kap k n g ii jj (i + 1) * g j i) = sm n (fun v => g j v * ly k n g ii (fun c => sgi (kd k g ii jj) * kz k g ii jj c) v) := sm_congr (fun i hi => by
        unfold ly
        rw [if_pos hi, Int.mul_comm]
        rfl)
      rw [e8, e3]
      exact sm_congr (fun c _ => by grind)
    rw [e7]
    show sgi (kd k g ii jj) * kz k g ii jj k ≤ _
    have h5 : 0 ≤ (sgi (kd k g ii jj) * (sm k (fun c => kz k g ii jj c * g j (ii c)) - kz k g ii jj k)) * kb k g ii jj := by
      have : (sgi (kd k g ii jj) * (sm k (fun c => kz k g ii jj c * g j (ii c)) - kz k g ii jj k)) * kb k g ii jj = (sm k (fun c => kz k g ii jj c * g j (ii c)) - kz k g ii jj k) * kd k g ii jj := by
        unfold kb
        have := hsq ((sm k (fun c => kz k g ii jj c * g j (ii c)) - kz k g ii jj k) * kd k g ii jj)
        grind
      rw [this]; exact h4
    have h6 := Int.nonneg_of_mul_nonneg_left h5 hkb
    rw [Int.mul_sub] at h6
    omega
/-- a best one, held against all that were asked -/
def BI (m n : Nat) (g : Nat → Nat → Int) (Q : Nat → (Nat → Nat) → (Nat → Nat) → Prop) (fd : Bool) (b : Int) (f : Nat → Int) : Prop :=
  (fd = false → ∀ k ii jj, Q k ii jj → kd k g ii jj ≠ 0 → ¬ lawful m n g (kap k n g ii jj)) ∧
  (fd = true → 0 < b ∧ (∃ k ii jj, (∀ c, c < k → ii c < n) ∧ kd k g ii jj ≠ 0 ∧ lawful m n g (kap k n g ii jj) ∧ b = kb k g ii jj ∧ ∀ t, t < n + 1 → f t = kap k n g ii jj t) ∧
    ∀ k ii jj, Q k ii jj → kd k g ii jj ≠ 0 → lawful m n g (kap k n g ii jj) → Lnn (n + 1) (fun t => f t * kb k g ii jj - kap k n g ii jj t * b))
theorem BI_final {m n : Nat} {g : Nat → Nat → Int} {Q : Nat → (Nat → Nat) → (Nat → Nat) → Prop} {fd : Bool} {b : Int} {f : Nat → Int} (hB : BI m n g Q fd b f) {s : SS} (h : optm m n g s) (hn : 0 < n) (hg : ∀ r c, r < m → c < n → - 8 ≤ g r c ∧ g r c ≤ 8) {k : Nat} {ii jj : Nat → Nat} (hQ : Q k ii jj) (hT : Tells m n k s ii jj) (hall : ∀ v, v < n → bas m s v → ∃ c, c < k ∧ ii c = v) : fd = true ∧ 0 < b ∧ ∀ t, t < n + 1 → f t * s.1 m n = kst m n s t * b := by
  have hX := opt_X h hn hg
  obtain ⟨hD, hv, hl⟩ := opt_is h hX hT
  cases fd with
  | false => exact absurd hl (hB.1 rfl k ii jj hQ hD)
  | true =>
    obtain ⟨hb, ⟨k2, ii2, jj2, hii2, hD2, hl2, eb, ef⟩, hmax⟩ := hB.2 rfl
    refine ⟨rfl, hb, fun t ht => ?_⟩
    have h1 := opt_ge h hn hg hii2 hD2 hl2
    have h2 := hmax k ii jj hQ hD hl
    have hkb := kb_pos hD
    have h3 : Lnn (n + 1) (fun t => - (kst m n s t * b - f t * s.1 m n)) := by
      refine Lnn_of_mul hkb (Lnn_congr (fun t ht => ?_) (Lnn_mul (Int.le_of_lt hX) h2))
      have := hv t ht hall
      grind
    have h4 : Lnn (n + 1) (fun t => kst m n s t * b - f t * s.1 m n) := Lnn_congr (fun t ht => by rw [ef t ht, eb]) h1
    have := Lnn_both h4 h3 t ht
    omega
/-- one more is asked -/
theorem BI_step {m n : Nat} {g : Nat → Nat → Int} {Q : Nat → (Nat → Nat) → (Nat → Nat) → Prop} {fd : Bool} {b : Int} {f : Nat → Int} (hB : BI m n g Q fd b f) {k : Nat} {ii jj : Nat → Nat} (hii : ∀ c, c < k → ii c < n) {fd' : Bool} {b' : Int} {f' : Nat → Int}
    (hno : (kd k g ii jj = 0 ∨ ¬ lawful m n g (kap k n g ii jj) ∨ (fd = true ∧ ¬ Lps (n + 1) (fun t => kap k n g ii jj t * b - f t * kb k g ii jj))) → fd' = fd ∧ b' = b ∧ f' = f)
    (hyes : kd k g ii jj ≠ 0 → lawful m n g (kap k n g ii jj) → (fd = false ∨ Lps (n + 1) (fun t => kap k n g ii jj t * b - f t * kb k g ii jj)) → fd' = true ∧ b' = kb k g ii jj ∧ ∀ t, t < n + 1 → f' t = kap k n g ii jj t) : BI m n g (fun k' ii' jj' => Q k' ii' jj' ∨ (k' = k ∧ ii' = ii ∧ jj' = jj)) fd' b' f' := by
  by_cases hD : kd k g ii jj = 0
  · obtain ⟨e1, e2, e3⟩ := hno (Or.inl hD)
    subst e1; subst e2; subst e3
    refine ⟨fun e k' ii' jj' hQ hD' hl' => ?_, fun e => ?_⟩
    · rcases hQ with hQ | ⟨q1, q2, q3⟩
      · exact hB.1 e k' ii' jj' hQ hD' hl'
      · subst q1; subst q2; subst q3; exact hD' hD
    · obtain ⟨h1, h2, h3⟩ := hB.2 e
      refine ⟨h1, h2, fun k' ii' jj' hQ hD' hl' => ?_⟩
      rcases hQ with hQ | ⟨q1, q2, q3⟩
      · exact h3 k' ii' jj' hQ hD' hl'
      · subst q1; subst q2; subst q3; exact absurd hD hD'
  · by_cases hl : lawful m n g (kap k n g ii jj)
    · have hkb := kb_pos hD
      by_cases hbt : fd = false ∨ Lps (n + 1) (fun t => kap k n g ii jj t * b - f t * kb k g ii jj)
      · obtain ⟨e1, e2, e3⟩ := hyes hD hl hbt
        refine ⟨fun e => by rw [e1] at e; exact absurd e (by decide), fun _ => ⟨by rw [e2]; exact hkb, ⟨k, ii, jj, hii, hD, hl, e2, e3⟩, fun k' ii' jj' hQ hD' hl' => ?_⟩⟩
        rcases hQ with hQ | ⟨q1, q2, q3⟩
        · rcases hbt with q | q
          · exact absurd hl' (hB.1 q k' ii' jj' hQ hD')
          · cases fd with
            | false => exact absurd hl' (hB.1 rfl k' ii' jj' hQ hD')
            | true =>
              obtain ⟨hb, -, h3⟩ := hB.2 rfl
              have h4 := h3 k' ii' jj' hQ hD' hl'
              have hkb' := kb_pos hD'
              refine Lnn_of_mul hb (Lnn_congr (fun t ht => ?_) (Lnn_add (Lnn_mul (Int.le_of_lt hkb') (Lnn_of_Lps q)) (Lnn_mul (Int.le_of_lt hkb) h4)))
              rw [e2, e3 t ht]
              grind
        · subst q1; subst q2; subst q3
          exact Lnn_zero (fun t ht => by rw [e2, e3 t ht]; omega)
      · have hfd : fd = true := by
          cases fd with
          | false => exact absurd (Or.inl rfl) hbt
          | true => rfl
        obtain ⟨e1, e2, e3⟩ := hno (Or.inr (Or.inr ⟨hfd, fun q => hbt (Or.inr q)⟩))
        subst e1; subst e2; subst e3
        refine ⟨fun e => by rw [e] at hfd; exact absurd hfd (by decide), fun e => ?_⟩
        obtain ⟨h1, h2, h3⟩ := hB.2 e
        refine ⟨h1, h2, fun k' ii' jj' hQ hD' hl' => ?_⟩
        rcases hQ with hQ | ⟨q1, q2, q3⟩
        · exact h3 k' ii' jj' hQ hD' hl'
        · subst q1; subst q2; subst q3
          rcases Lnn_tot (L := n + 1) (f := fun t => f' t * kb k' g ii' jj' - kap k' n g ii' jj' t * b') with q | q
          · exact q
          · exact absurd (Or.inr (Lps_congr (fun t _ => by omega) q)) hbt
    · obtain ⟨e1, e2, e3⟩ := hno (Or.inr (Or.inl hl))
      subst e1; subst e2; subst e3
      refine ⟨fun e k' ii' jj' hQ hD' hl' => ?_, fun e => ?_⟩
      · rcases hQ with hQ | ⟨q1, q2, q3⟩
        · exact hB.1 e k' ii' jj' hQ hD' hl'
        · subst q1; subst q2; subst q3; exact hl hl'
      · obtain ⟨h1, h2, h3⟩ := hB.2 e
        refine ⟨h1, h2, fun k' ii' jj' hQ hD' hl' => ?_⟩
        rcases hQ with hQ | ⟨q1, q2, q3⟩
        · exact h3 k' ii' jj' hQ hD' hl'
        · subst q1; subst q2; subst q3; exact absurd hl' hl
