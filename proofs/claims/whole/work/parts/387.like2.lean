/-! ===== alike: patterns ===== -/
theorem pat (W : Nat → Int) : ∃ p1 p2 p3, p1 < 2 ∧ p2 < 3 ∧ p3 < 4 ∧ ∀ i j, i < 4 → j < 4 → ptE (p1 * 4 + p2 * 16 + p3 * 64) i j = decide (W i = W j) := by
  obtain ⟨p1, h1, e1⟩ : ∃ p1, p1 < 2 ∧ ((p1 = 0 ∧ W 0 = W 1) ∨ (p1 = 1 ∧ W 0 ≠ W 1)) := by
    by_cases q : W 0 = W 1
    · exact ⟨0, by omega, Or.inl ⟨rfl, q⟩⟩
    · exact ⟨1, by omega, Or.inr ⟨rfl, q⟩⟩
  obtain ⟨p2, h2, e2⟩ : ∃ p2, p2 < 3 ∧ ((p2 = 0 ∧ W 0 = W 2) ∨ (p2 = 1 ∧ W 0 ≠ W 2 ∧ W 1 = W 2) ∨ (p2 = 2 ∧ W 0 ≠ W 2 ∧ W 1 ≠ W 2)) := by
    by_cases q : W 0 = W 2
    · exact ⟨0, by omega, Or.inl ⟨rfl, q⟩⟩
    · by_cases q2 : W 1 = W 2
      · exact ⟨1, by omega, Or.inr (Or.inl ⟨rfl, q, q2⟩)⟩
      · exact ⟨2, by omega, Or.inr (Or.inr ⟨rfl, q, q2⟩)⟩
  obtain ⟨p3, h3, e3⟩ : ∃ p3, p3 < 4 ∧ ((p3 = 0 ∧ W 0 = W 3) ∨ (p3 = 1 ∧ W 0 ≠ W 3 ∧ W 1 = W 3) ∨ (p3 = 2 ∧ W 0 ≠ W 3 ∧ W 1 ≠ W 3 ∧ W 2 = W 3) ∨ (p3 = 3 ∧ W 0 ≠ W 3 ∧ W 1 ≠ W 3 ∧ W 2 ≠ W 3)) := by
    by_cases q : W 0 = W 3
    · exact ⟨0, by omega, Or.inl ⟨rfl, q⟩⟩
    · by_cases q2 : W 1 = W 3
      · exact ⟨1, by omega, Or.inr (Or.inl ⟨rfl, q, q2⟩)⟩
      · by_cases q3 : W 2 = W 3
        · exact ⟨2, by omega, Or.inr (Or.inr (Or.inl ⟨rfl, q, q2, q3⟩))⟩
        · exact ⟨3, by omega, Or.inr (Or.inr (Or.inr ⟨rfl, q, q2, q3⟩))⟩
  refine ⟨p1, p2, p3, h1, h2, h3, fun i j hi hj => ?_⟩
  have f0 : ptn (p1 * 4 + p2 * 16 + p3 * 64) 0 = 0 := by show (p1 * 4 + p2 * 16 + p3 * 64) / 1 % 4 = 0; omega
  have f1 : ptn (p1 * 4 + p2 * 16 + p3 * 64) 1 = p1 := by show (p1 * 4 + p2 * 16 + p3 * 64) / 4 % 4 = p1; omega
  have f2 : ptn (p1 * 4 + p2 * 16 + p3 * 64) 2 = p2 := by show (p1 * 4 + p2 * 16 + p3 * 64) / 16 % 4 = p2; omega
  have f3 : ptn (p1 * 4 + p2 * 16 + p3 * 64) 3 = p3 := by show (p1 * 4 + p2 * 16 + p3 * 64) / 64 % 4 = p3; omega
  have key : ptn (p1 * 4 + p2 * 16 + p3 * 64) i = ptn (p1 * 4 + p2 * 16 + p3 * 64) j ↔ W i = W j := by
    rcases (show i = 0 ∨ i = 1 ∨ i = 2 ∨ i = 3 by omega) with rfl | rfl | rfl | rfl <;>
    rcases (show j = 0 ∨ j = 1 ∨ j = 2 ∨ j = 3 by omega) with rfl | rfl | rfl | rfl <;>
    simp only [f0, f1, f2, f3] <;> omega
  unfold ptE
  by_cases q : W i = W j
  · rw [decide_eq_true q, key.mpr q, beq_self_eq_true]
  · rw [decide_eq_false q]
    exact beq_false_of_ne (fun h => q (key.mp h))
/-- a side's likeness -/
def eqw (W : Nat → Int) : Nat → Nat → Bool := fun i j => decide (W i = W j)
def ls (K : Nat) (W : Nat → Int) (c : Nat) : Nat := lsa K (eqw W) c
theorem ky_kyN {K P : Nat} {W : Nat → Int} (hP : ∀ i j, i < 4 → j < 4 → ptE P i j = decide (W i = W j)) (hK : K ≤ 4) (c : Nat) {f : Nat} (hf : f < K) : ky K W c f = (kyN K P c f K : Nat) := by
  have h : ∀ m, m ≤ K → sm m (fun k => if W k = W f then ((5 ^ dg K c k : Nat) : Int) else 0) = (kyN K P c f m : Nat) := by
    intro m
    induction m with
    | zero => intro _; rfl
    | succ m ih =>
      intro hm
      show sm m (fun k => if W k = W f then ((5 ^ dg K c k : Nat) : Int) else 0) + (if W m = W f then ((5 ^ dg K c m : Nat) : Int) else 0) = ((kyN K P c f m + (if (ptn P m == ptn P f) = true then 5 ^ dg K c m else 0) : Nat) : Int)
      have e : (ptn P m == ptn P f) = decide (W m = W f) := hP m f (by omega) (by omega)
      rw [ih (by omega), e]
      by_cases q : W m = W f
      · rw [if_pos q, decide_eq_true q, if_pos rfl]; omega
      · rw [if_neg q, decide_eq_false q, if_neg (by decide)]; omega
  exact h K (Nat.le_refl _)
theorem dcd_congr {K P a b : Nat} (h : ∀ f, f < K → kyN K P a f K = kyN K P b f K) : ∀ m, m ≤ K → dcd K P a m = dcd K P b m := by
  intro m
  induction m with
  | zero => intro _; rfl
  | succ m ih =>
    intro hm
    show dcd K P a m * 8 + sel 8 (kyN K P a m K) (rk P m m) = dcd K P b m * 8 + sel 8 (kyN K P b m K) (rk P m m)
    rw [ih (by omega), h m (by omega)]
theorem chk_Aat {K P c : Nat} {p1 p2 p3 f : Nat} (hK1 : 1 ≤ K) (hK : K ≤ 4) (h1 : p1 < 2) (h2 : p2 < 3) (h3 : p3 < 4) (hf : f ≤ 7) (hc : c ∈ cl K f) (hP : P = p1 * 4 + p2 * 16 + p3 * 64) : chkA K P c = true := by
  subst hP
  have go : ∀ n, (List.range 2).all (fun p1 => (List.range 3).all (fun p2 => (List.range 4).all (fun p3 => (List.range 8).all (fun f => (fil n f 0).all (fun c => chkA (n + 1) (p1 * 4 + p2 * 16 + p3 * 64) c))))) = true → n < 4 → c ∈ cl (n + 1) f → chkA (n + 1) (p1 * 4 + p2 * 16 + p3 * 64) c = true := by
    intro n hn hn4 hcn
    have a1 := List.all_eq_true.mp hn p1 (List.mem_range.mpr h1)
    have a2 := List.all_eq_true.mp a1 p2 (List.mem_range.mpr h2)
    have a3 := List.all_eq_true.mp a2 p3 (List.mem_range.mpr h3)
    have a4 := List.all_eq_true.mp a3 f (List.mem_range.mpr (by omega))
    exact List.all_eq_true.mp a4 c (by rw [fil_cl hn4 (by omega)]; exact hcn)
  rcases (show K = 1 ∨ K = 2 ∨ K = 3 ∨ K = 4 by omega) with rfl | rfl | rfl | rfl
  · exact go 0 chk_A0 (by omega) hc
  · exact go 1 chk_A1 (by omega) hc
  · exact go 2 chk_A2 (by omega) hc
  · exact go 3 chk_A3 (by omega) hc
theorem chk_Dat {K P c : Nat} {p1 p2 p3 f : Nat} (hK1 : 1 ≤ K) (hK : K ≤ 4) (h1 : p1 < 2) (h2 : p2 < 3) (h3 : p3 < 4) (hf : f ≤ 7) (hc : c ∈ cl K f) (hP : P = p1 * 4 + p2 * 16 + p3 * 64) : lsa K (ptE P) c = dcd K P c K := by
  subst hP
  obtain ⟨K, rfl⟩ : ∃ K', K = K' + 1 := ⟨K - 1, by omega⟩
  have a0 := List.all_eq_true.mp chk_D K (List.mem_range.mpr (by omega))
  have a1 := List.all_eq_true.mp a0 p1 (List.mem_range.mpr h1)
  have a2 := List.all_eq_true.mp a1 p2 (List.mem_range.mpr h2)
  have a3 := List.all_eq_true.mp a2 p3 (List.mem_range.mpr h3)
  have a4 := List.all_eq_true.mp a3 f (List.mem_range.mpr (by omega))
  have a5 := List.all_eq_true.mp a4 c (by rw [fil_cl (by omega) (by omega)]; exact hc)
  exact Nat.eq_of_beq_eq_true a5
theorem ls_pt {K P : Nat} {W : Nat → Int} (hP : ∀ i j, i < 4 → j < 4 → ptE P i j = decide (W i = W j)) (hK : K ≤ 4) (c : Nat) : ls K W c = lsa K (ptE P) c := lsa_congr (fun i j hij hj => (hP i j (by omega) (by omega)).symm) c
theorem ls_mem {K f c : Nat} (hK1 : 1 ≤ K) (hK : K ≤ 4) (hf : f ≤ 7) (W : Nat → Int) (hc : c ∈ cl K f) : ls K W c ∈ cl K f := lsa_inv (Q := fun c => c ∈ cl K f) (fun c i j hij hj _ h => (sw_facts hK1 hK hf h hij hj).1) hc
/-- what like fields' swaps keep is so of the least alike -/
theorem ls_keep {K f c : Nat} (hK1 : 1 ≤ K) (hK : K ≤ 4) (hf : f ≤ 7) {W : Nat → Int} {α : Type} (F : Nat → α) (hF : ∀ c i j, c ∈ cl K f → i < j → j < K → W i = W j → F (sw K i j c) = F c) (hc : c ∈ cl K f) : F (ls K W c) = F c := (lsa_inv (Q := fun x => x ∈ cl K f ∧ F x = F c) (fun x i j hij hj e h => ⟨(sw_facts hK1 hK hf h.1 hij hj).1, (hF x i j h.1 hij hj (of_decide_eq_true e)).trans h.2⟩) ⟨hc, rfl⟩).2
theorem ls_ky {K f c : Nat} (hK1 : 1 ≤ K) (hK : K ≤ 4) (hf : f ≤ 7) {W : Nat → Int} (hc : c ∈ cl K f) (g : Nat) : ky K W (ls K W c) g = ky K W c g := ls_keep hK1 hK hf (fun c => ky K W c g) (fun c i j hc hij hj e => sw_sm hK1 hK hf hc hij hj e (fun w d => if w = W g then ((5 ^ d : Nat) : Int) else 0)) hc
theorem ls_le {K f c : Nat} (hK1 : 1 ≤ K) (hK : K ≤ 4) (hf : f ≤ 7) {W : Nat → Int} (hc : c ∈ cl K f) : ls K W c ≤ c ∧ ls K W (ls K W c) = ls K W c := by
  obtain ⟨p1, p2, p3, h1, h2, h3, hP⟩ := pat W
  have h := chk_Aat hK1 hK h1 h2 h3 hf hc rfl
  unfold chkA at h
  simp only [Bool.and_eq_true, Nat.ble_eq, Nat.beq_eq] at h
  rw [ls_pt hP hK, ls_pt hP hK]
  exact ⟨h.1.1.1, h.2⟩
theorem ls_iff {K f a b : Nat} (hK1 : 1 ≤ K) (hK : K ≤ 4) (hf : f ≤ 7) {W : Nat → Int} (ha : a ∈ cl K f) (hb : b ∈ cl K f) : (∀ g, g < K → ky K W a g = ky K W b g) ↔ ls K W a = ls K W b := by
  constructor
  · intro h
    obtain ⟨p1, p2, p3, h1, h2, h3, hP⟩ := pat W
    rw [ls_pt hP hK, ls_pt hP hK, chk_Dat hK1 hK h1 h2 h3 hf ha rfl, chk_Dat hK1 hK h1 h2 h3 hf hb rfl]
    refine dcd_congr (fun g hg => ?_) K (Nat.le_refl _)
    have := h g hg
    rw [ky_kyN hP hK a hg, ky_kyN hP hK b hg] at this
    omega
  · intro h g _
    rw [← ls_ky hK1 hK hf ha g, h, ls_ky hK1 hK hf hb g]
/-- the number of the least alike -/
def li (K : Nat) (W : Nat → Int) (f i : Nat) : Nat := (nmb K f (i3 (ls K W (cd K f i) : Nat))).toNat
theorem li_ok {K f i : Nat} (hK1 : 1 ≤ K) (hK : K ≤ 4) (hf : f ≤ 7) {W : Nat → Int} (hi : i < ns K f) : li K W f i < ns K f ∧ cd K f (li K W f i) = ls K W (cd K f i) ∧ nmb K f (i3 (ls K W (cd K f i) : Nat)) = (li K W f i : Nat) := by
  have hm := cl_mem.mp (ls_mem hK1 hK hf W (cd_mem hi))
  obtain ⟨j, hj, e⟩ := cd_surj hm.1 hm.2
  have e2 := nmb_cd hK hj
  have e3 : li K W f i = j := by
    unfold li
    rw [← e, e2]
    rfl
  rw [e3, ← e, e2]
  exact ⟨hj, rfl, rfl⟩
theorem li_le {K f i : Nat} (hK1 : 1 ≤ K) (hK : K ≤ 4) (hf : f ≤ 7) {W : Nat → Int} (hi : i < ns K f) : li K W f i ≤ i ∧ li K W f (li K W f i) = li K W f i := by
  obtain ⟨h1, h2, -⟩ := li_ok hK1 hK hf (W := W) hi
  obtain ⟨g1, g2, -⟩ := li_ok hK1 hK hf (W := W) h1
  have hl := ls_le hK1 hK hf (W := W) (cd_mem hi)
  constructor
  · rcases Nat.lt_or_ge i (li K W f i) with q | q
    · have := cd_mono q h1
      omega
    · exact q
  · refine cd_inj g1 h1 ?_
    rw [g2, h2, hl.2]
theorem li_ls {K f i j : Nat} (hK1 : 1 ≤ K) (hK : K ≤ 4) (hf : f ≤ 7) {W : Nat → Int} (hi : i < ns K f) (hj : j < ns K f) : li K W f i = li K W f j ↔ ls K W (cd K f i) = ls K W (cd K f j) := by
  obtain ⟨h1, h2, -⟩ := li_ok hK1 hK hf (W := W) hi
  obtain ⟨g1, g2, -⟩ := li_ok hK1 hK hf (W := W) hj
  constructor
  · intro h; rw [← h2, ← g2, h]
  · intro h; exact cd_inj h1 g1 (by rw [h2, g2, h])
theorem lkb_li {K f i j : Nat} (hK1 : 1 ≤ K) (hK : K ≤ 4) (hf : f ≤ 7) {W : Nat → Int} (hi : i < ns K f) (hj : j < ns K f) : lkb K W (cd K f i) (cd K f j) K = decide (li K W f i = li K W f j) := by
  have h := (lkb_iff K W (cd K f i) (cd K f j) K).trans ((ls_iff hK1 hK hf (W := W) (cd_mem hi) (cd_mem hj)).trans (li_ls hK1 hK hf hi hj).symm)
  by_cases q : li K W f i = li K W f j
  · rw [decide_eq_true q]; exact h.mpr q
  · rw [decide_eq_false q]
    cases e : lkb K W (cd K f i) (cd K f j) K
    · rfl
    · exact absurd (h.mp e) q
