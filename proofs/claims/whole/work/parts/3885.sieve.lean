/-! ===== the sieve: swaps, shapes, its end ===== -/
theorem gsd_swI {K : Nat} {W : Nat → Int} {t : Int} (hV : Vd K W t) {fo : Nat → Nat} (hfo : ∀ s, s < 2 → fo s ≤ 7) {a b : Nat} (hab : a < b) (hb : b < K) (hW : W a = W b) {s i j : Nat} (hs : s < 2) (hi : i < ns K (fo s)) (hj : j < ns K (fo (1 - s))) : gsd K W t fo s (swI K (fo s) a b i) (swI K (fo (1 - s)) a b j) = gsd K W t fo s i j := by
  have f0 := hfo 0 (by omega)
  have f1 := hfo 1 (by omega)
  rcases two_cases hs with rfl | rfl
  · have hj' : j < ns K (fo 1) := hj
    show gn K W t (cd K (fo 0) (swI K (fo 0) a b i)) (cd K (fo 1) (swI K (fo 1) a b j)) = gn K W t (cd K (fo 0) i) (cd K (fo 1) j)
    rw [(swI_ok hV.1 hV.2.1 f0 hab hb hi).2, (swI_ok hV.1 hV.2.1 f1 hab hb hj').2, gn_sw hV.1 hV.2.1 f0 f1 (cd_mem hi) (cd_mem hj') hab hb hW]
  · have hj' : j < ns K (fo 0) := hj
    show - gn K W t (cd K (fo 0) (swI K (fo 0) a b j)) (cd K (fo 1) (swI K (fo 1) a b i)) = - gn K W t (cd K (fo 0) j) (cd K (fo 1) i)
    rw [(swI_ok hV.1 hV.2.1 f1 hab hb hi).2, (swI_ok hV.1 hV.2.1 f0 hab hb hj').2, gn_sw hV.1 hV.2.1 f0 f1 (cd_mem hj') (cd_mem hi) hab hb hW]
/-- it goes -/
def Gs (K : Nat) (W : Nat → Int) (t : Int) (fo : Nat → Nat) (L : Nat → Nat → Bool) (s i : Nat) : Prop := ∃ j, j < ns K (fo s) ∧ L s j = true ∧ wrs (gsd K W t fo s i) (gsd K W t fo s j) (ns K (fo (1 - s))) (L (1 - s)) true 0 0
theorem lfs_succ (K : Nat) (W : Nat → Int) (t : Int) (fo : Nat → Nat) (R s i : Nat) : lfs K W t fo (R + 1) s i = (lfs K W t fo R s i && !pd (Gs K W t fo (lfs K W t fo R) s i)) := rfl
theorem wrs_s {gi gj : Nat → Int} {N : Nat} {L : Nat → Bool} : wrs gi gj N L true 0 0 ↔ (∀ k, k < N → L k = true → gi k < gj k) ∧ ∃ k, k < N ∧ L k = true := by
  unfold wrs
  constructor
  · intro ⟨h1, h2⟩
    refine ⟨fun k hk hl => (h1 k (Nat.zero_le _) hk hl).1 rfl, ?_⟩
    rcases h2 with h2 | ⟨k, _, hk, hl, _⟩
    · exact absurd h2 (by decide)
    · exact ⟨k, hk, hl⟩
  · intro ⟨h1, k, hk, hl⟩
    refine ⟨fun k _ hk hl => ⟨fun _ => h1 k hk hl, ?_⟩, Or.inr ⟨k, Nat.zero_le _, hk, hl, h1 k hk hl⟩⟩
    have := h1 k hk hl
    omega
theorem Gs_swI {K : Nat} {W : Nat → Int} {t : Int} (hV : Vd K W t) {fo : Nat → Nat} (hfo : ∀ s, s < 2 → fo s ≤ 7) {a b : Nat} (hab : a < b) (hb : b < K) (hW : W a = W b) {L : Nat → Nat → Bool} (hL : ∀ s i, s < 2 → i < ns K (fo s) → L s (swI K (fo s) a b i) = L s i) {s i : Nat} (hs : s < 2) (hi : i < ns K (fo s)) (h : Gs K W t fo L s i) : Gs K W t fo L s (swI K (fo s) a b i) := by
  obtain ⟨j, hj, lj, hw⟩ := h
  obtain ⟨w1, k, hk, lk⟩ := wrs_s.mp hw
  have hs' : 1 - s < 2 := by omega
  have f := hfo s hs
  have f' := hfo (1 - s) hs'
  have sj := swI_ok hV.1 hV.2.1 f hab hb hj
  refine ⟨swI K (fo s) a b j, sj.1, by rw [hL s j hs hj]; exact lj, wrs_s.mpr ⟨fun k' hk' lk' => ?_, swI K (fo (1 - s)) a b k, (swI_ok hV.1 hV.2.1 f' hab hb hk).1, by rw [hL (1 - s) k hs' hk]; exact lk⟩⟩
  have sk := swI_ok hV.1 hV.2.1 f' hab hb hk'
  have e := swI_swI hV.1 hV.2.1 f' hab hb hk'
  rw [← e, gsd_swI hV hfo hab hb hW hs hi sk.1, gsd_swI hV hfo hab hb hW hs hj sk.1]
  exact w1 _ sk.1 (by rw [hL (1 - s) k' hs' hk']; exact lk')
theorem lfs_swI {K : Nat} {W : Nat → Int} {t : Int} (hV : Vd K W t) {fo : Nat → Nat} (hfo : ∀ s, s < 2 → fo s ≤ 7) {a b : Nat} (hab : a < b) (hb : b < K) (hW : W a = W b) : ∀ (R s i : Nat), s < 2 → i < ns K (fo s) → lfs K W t fo R s (swI K (fo s) a b i) = lfs K W t fo R s i := by
  intro R
  induction R with
  | zero =>
    intro s i hs hi
    have h := swI_ok hV.1 hV.2.1 (hfo s hs) hab hb hi
    show decide (swI K (fo s) a b i < ns K (fo s)) = decide (i < ns K (fo s))
    rw [decide_eq_true h.1, decide_eq_true hi]
  | succ R ih =>
    intro s i hs hi
    have h := swI_ok hV.1 hV.2.1 (hfo s hs) hab hb hi
    have g1 := Gs_swI hV hfo hab hb hW ih hs hi
    have g2 := Gs_swI hV hfo hab hb hW ih hs h.1
    rw [swI_swI hV.1 hV.2.1 (hfo s hs) hab hb hi] at g2
    rw [lfs_succ, lfs_succ, ih s i hs hi]
    congr 2
    by_cases q : Gs K W t fo (lfs K W t fo R) s i
    · rw [pd_t.mpr q, pd_t.mpr (g1 q)]
    · rw [pd_f.mpr q, pd_f.mpr (fun c => q (g2 c))]
theorem lfs_li {K : Nat} {W : Nat → Int} {t : Int} (hV : Vd K W t) {fo : Nat → Nat} (hfo : ∀ s, s < 2 → fo s ≤ 7) (R : Nat) {s i : Nat} (hs : s < 2) (hi : i < ns K (fo s)) : lfs K W t fo R s (li K W (fo s) i) = lfs K W t fo R s i := by
  have f := hfo s hs
  have h := ls_keep hV.1 hV.2.1 f (W := W) (fun c => lfs K W t fo R s (nmb K (fo s) (i3 (c : Nat))).toNat) (fun c a b hc hab hb hW => by
    obtain ⟨j, hj, e⟩ := cd_surj (cl_mem.mp hc).1 (cl_mem.mp hc).2
    have e1 : (nmb K (fo s) (i3 (c : Nat))).toNat = j := by rw [← e, nmb_cd hV.2.1 hj]; rfl
    show lfs K W t fo R s (nmb K (fo s) (i3 (sw K a b c : Nat))).toNat = lfs K W t fo R s (nmb K (fo s) (i3 (c : Nat))).toNat
    rw [e1, ← e]
    exact lfs_swI hV hfo hab hb hW R s j hs hj) (cd_mem hi)
  have e2 : (nmb K (fo s) (i3 (cd K (fo s) i : Nat))).toNat = i := by rw [nmb_cd hV.2.1 hi]; rfl
  have h' : lfs K W t fo R s (li K W (fo s) i) = lfs K W t fo R s (nmb K (fo s) (i3 (cd K (fo s) i : Nat))).toNat := h
  rw [h', e2]
theorem argmax {p : Nat → Bool} {g : Nat → Int} : ∀ n, (∃ i, i < n ∧ p i = true) → ∃ i, i < n ∧ p i = true ∧ ∀ j, j < n → p j = true → g j ≤ g i := by
  intro n
  induction n with
  | zero => intro ⟨i, hi, _⟩; exact absurd hi (Nat.not_lt_zero i)
  | succ n ih =>
    intro ⟨i, hi, hp⟩
    by_cases h : ∃ i, i < n ∧ p i = true
    · obtain ⟨k, hk, pk, mk⟩ := ih h
      by_cases q : p n = true ∧ g k < g n
      · refine ⟨n, by omega, q.1, fun j hj pj => ?_⟩
        by_cases e : j = n
        · rw [e]; exact Int.le_refl _
        · have := mk j (by omega) pj
          omega
      · refine ⟨k, by omega, pk, fun j hj pj => ?_⟩
        by_cases e : j = n
        · subst e
          rcases Int.lt_or_le (g k) (g j) with c | c
          · exact absurd ⟨pj, c⟩ q
          · exact c
        · exact mk j (by omega) pj
    · refine ⟨i, hi, hp, fun j hj pj => ?_⟩
      have e1 : j = n := by
        rcases Nat.lt_or_ge j n with c | c
        · exact absurd ⟨j, c, pj⟩ h
        · omega
      have e2 : i = n := by
        rcases Nat.lt_or_ge i n with c | c
        · exact absurd ⟨i, c, hp⟩ h
        · omega
      rw [e1, e2]
      exact Int.le_refl _
theorem lfs_ne {K : Nat} {W : Nat → Int} {t : Int} (hV : Vd K W t) {fo : Nat → Nat} (hfo : ∀ s, s < 2 → fo s ≤ 7) : ∀ (R s : Nat), s < 2 → ∃ i, i < ns K (fo s) ∧ lfs K W t fo R s i = true := by
  intro R
  induction R with
  | zero =>
    intro s hs
    have n0 := ns_bd hV (hfo s hs)
    exact ⟨0, n0.2, decide_eq_true n0.2⟩
  | succ R ih =>
    intro s hs
    obtain ⟨k, hk, lk⟩ := ih (1 - s) (by omega)
    obtain ⟨i, hi, pi, mi⟩ := argmax (p := lfs K W t fo R s) (g := fun i => gsd K W t fo s i k) (ns K (fo s)) (ih s hs)
    refine ⟨i, hi, ?_⟩
    rw [lfs_succ, pi, pd_f.mpr]
    · rfl
    · intro ⟨j, hj, lj, hw⟩
      have h1 := (wrs_s.mp hw).1 k hk lk
      have h2 := mi j hj lj
      have h2' : gsd K W t fo s j k ≤ gsd K W t fo s i k := h2
      omega
theorem lfs_sub {K : Nat} {W : Nat → Int} {t : Int} {fo : Nat → Nat} {R s i : Nat} (h : lfs K W t fo (R + 1) s i = true) : lfs K W t fo R s i = true := by
  rw [lfs_succ, Bool.and_eq_true] at h
  exact h.1
theorem lfs_lt {K : Nat} {W : Nat → Int} {t : Int} {fo : Nat → Nat} : ∀ {R s i : Nat}, lfs K W t fo R s i = true → i < ns K (fo s)
  | 0, _, _, h => of_decide_eq_true h
  | _ + 1, _, _, h => lfs_lt (lfs_sub h)
theorem cf_sub {p q : Nat → Bool} : ∀ (n : Nat), (∀ i, i < n → q i = true → p i = true) → cf q n ≤ cf p n ∧ ((∃ i, i < n ∧ p i = true ∧ q i = false) → cf q n < cf p n) := by
  intro n
  induction n with
  | zero => intro _; exact ⟨Nat.le_refl _, fun ⟨i, hi, _⟩ => absurd hi (Nat.not_lt_zero i)⟩
  | succ n ih =>
    intro h
    obtain ⟨h1, h2⟩ := ih (fun i hi => h i (by omega))
    have h3 := h n (by omega)
    show cf q n + (if q n then 1 else 0) ≤ cf p n + (if p n then 1 else 0) ∧ (_ → cf q n + (if q n then 1 else 0) < cf p n + (if p n then 1 else 0))
    have h4 : (if q n = true then 1 else 0) ≤ (if p n = true then 1 else 0) := by
      cases c : q n
      · rw [if_neg (by decide)]; exact Nat.zero_le _
      · rw [h3 c]; exact Nat.le_refl _
    refine ⟨by omega, fun ⟨i, hi, a, b⟩ => ?_⟩
    by_cases e : i = n
    · subst e
      rw [a, b, if_pos rfl, if_neg (by decide)]
      omega
    · have := h2 ⟨i, by omega, a, b⟩
      omega
theorem cf_pos {p : Nat → Bool} {n : Nat} (h : ∃ i, i < n ∧ p i = true) : 1 ≤ cf p n := by
  obtain ⟨i, hi, hp⟩ := h
  have h1 := cf_mono (p := p) (i := i + 1) (j := n) hi
  have h2 : cf p (i + 1) = cf p i + 1 := by show cf p i + (if p i then 1 else 0) = _; rw [if_pos hp]
  omega
theorem rounds_bd {K : Nat} {W : Nat → Int} {t : Int} (hV : Vd K W t) {fo : Nat → Nat} (hfo : ∀ s, s < 2 → fo s ≤ 7) {R : Nat} (h : ∀ r, r < R → some_go K W t fo r) : R ≤ 238 := by
  have go : ∀ r, r ≤ R → cf (lfs K W t fo r 0) (ns K (fo 0)) + cf (lfs K W t fo r 1) (ns K (fo 1)) + r ≤ 240 := by
    intro r
    induction r with
    | zero =>
      intro _
      have a := cf_le (lfs K W t fo 0 0) (ns K (fo 0))
      have b := cf_le (lfs K W t fo 0 1) (ns K (fo 1))
      have c := ns_bd hV (hfo 0 (by omega))
      have d := ns_bd hV (hfo 1 (by omega))
      omega
    | succ r ih =>
      intro hr
      have i1 := ih (by omega)
      have a := cf_sub (p := lfs K W t fo r 0) (q := lfs K W t fo (r + 1) 0) (ns K (fo 0)) (fun i _ c => lfs_sub c)
      have b := cf_sub (p := lfs K W t fo r 1) (q := lfs K W t fo (r + 1) 1) (ns K (fo 1)) (fun i _ c => lfs_sub c)
      obtain ⟨s, i, hs, hi, l1, l2⟩ := h r (by omega)
      rcases two_cases hs with rfl | rfl
      · have := a.2 ⟨i, hi, l1, l2⟩
        omega
      · have := b.2 ⟨i, hi, l1, l2⟩
        omega
  have g := go R (Nat.le_refl _)
  have a := cf_pos (lfs_ne hV hfo R 0 (by omega))
  have b := cf_pos (lfs_ne hV hfo R 1 (by omega))
  omega
/-- no one goes, or some -/
theorem cf_same {K : Nat} {W : Nat → Int} {t : Int} {fo : Nat → Nat} {r : Nat} : some_go K W t fo r ↔ (cf (lfs K W t fo (r + 1) 0) (ns K (fo 0)) < cf (lfs K W t fo r 0) (ns K (fo 0)) ∨ cf (lfs K W t fo (r + 1) 1) (ns K (fo 1)) < cf (lfs K W t fo r 1) (ns K (fo 1))) := by
  constructor
  · intro ⟨s, i, hs, hi, l1, l2⟩
    rcases two_cases hs with rfl | rfl
    · exact Or.inl ((cf_sub (ns K (fo 0)) (fun i _ c => lfs_sub c)).2 ⟨i, hi, l1, l2⟩)
    · exact Or.inr ((cf_sub (ns K (fo 1)) (fun i _ c => lfs_sub c)).2 ⟨i, hi, l1, l2⟩)
  · intro h
    apply Classical.byContradiction
    intro q
    have e : ∀ s, s < 2 → cf (lfs K W t fo (r + 1) s) (ns K (fo s)) = cf (lfs K W t fo r s) (ns K (fo s)) := fun s hs => cf_congr (fun i hi => by
      cases c : lfs K W t fo r s i
      · cases d : lfs K W t fo (r + 1) s i
        · rfl
        · rw [lfs_sub d] at c; exact absurd c (by decide)
      · cases d : lfs K W t fo (r + 1) s i
        · exact absurd ⟨s, i, hs, hi, c, d⟩ q
        · rfl)
    have e0 := e 0 (by omega)
    have e1 := e 1 (by omega)
    omega
