/-! ===== two fields change places ===== -/
def sw (K i j c : Nat) : Nat := if dg K c j < dg K c i then c + (dg K c i - dg K c j) * 8 ^ (K - 1 - j) - (dg K c i - dg K c j) * 8 ^ (K - 1 - i) else c + (dg K c j - dg K c i) * 8 ^ (K - 1 - i) - (dg K c j - dg K c i) * 8 ^ (K - 1 - j)
def trn (i j k : Nat) : Nat := if k = i then j else if k = j then i else k
def chkS (K c i j : Nat) : Bool := Nat.blt (sw K i j c) (8 ^ K) && Nat.beq (dsum K (sw K i j c)) (dsum K c) && Nat.beq (sw K i j (sw K i j c)) c && (List.range K).all (fun k => Nat.beq (dg K (sw K i j c) k) (dg K c (trn i j k)))
theorem chk_S : (List.range 4).all (fun K => (List.range 8).all (fun f => (fil K f 0).all (fun c => (List.range (K + 1)).all (fun j => (List.range j).all (fun i => chkS (K + 1) c i j))))) = true := by decide +kernel
theorem sw_facts {K f c i j : Nat} (hK1 : 1 ≤ K) (hK : K ≤ 4) (hf : f ≤ 7) (hc : c ∈ cl K f) (hij : i < j) (hj : j < K) : sw K i j c ∈ cl K f ∧ sw K i j (sw K i j c) = c ∧ ∀ k, k < K → dg K (sw K i j c) k = dg K c (trn i j k) := by
  obtain ⟨K, rfl⟩ : ∃ K', K = K' + 1 := ⟨K - 1, by omega⟩
  have h1 := List.all_eq_true.mp chk_S K (List.mem_range.mpr (by omega))
  have h2 := List.all_eq_true.mp h1 f (List.mem_range.mpr (by omega))
  have h3 := List.all_eq_true.mp h2 c (by rw [fil_cl (by omega) (by omega)]; exact hc)
  have h4 := List.all_eq_true.mp h3 j (List.mem_range.mpr hj)
  have h5 := List.all_eq_true.mp h4 i (List.mem_range.mpr hij)
  unfold chkS at h5
  simp only [Bool.and_eq_true, Nat.blt_eq, Nat.beq_eq, List.all_eq_true, List.mem_range] at h5
  obtain ⟨⟨⟨a1, a2⟩, a3⟩, a4⟩ := h5
  exact ⟨cl_mem.mpr ⟨a1, a2.trans (cl_mem.mp hc).2⟩, a3, a4⟩
theorem trn_lt {K i j k : Nat} (hi : i < K) (hj : j < K) (hk : k < K) : trn i j k < K := by
  unfold trn
  split
  · exact hj
  · split <;> omega
theorem trn_trn (i j k : Nat) : trn i j (trn i j k) = k := by
  unfold trn
  by_cases e1 : k = i
  · rw [if_pos e1]
    by_cases e2 : j = i
    · rw [if_pos e2]; omega
    · rw [if_neg e2, if_pos rfl]; omega
  · rw [if_neg e1]
    by_cases e2 : k = j
    · rw [if_pos e2, if_pos rfl]; omega
    · rw [if_neg e2, if_neg e1, if_neg e2]
theorem W_trn {W : Nat → Int} {i j : Nat} (h : W i = W j) (k : Nat) : W (trn i j k) = W k := by
  unfold trn
  by_cases e1 : k = i
  · rw [if_pos e1, e1]; exact h.symm
  · rw [if_neg e1]
    by_cases e2 : k = j
    · rw [if_pos e2, e2]; exact h
    · rw [if_neg e2]
theorem sm_inv {n : Nat} (σ : Nat → Nat) (h1 : ∀ i, i < n → σ i < n) (h2 : ∀ i, i < n → σ (σ i) = i) (g : Nat → Int) : sm n (fun i => g (σ i)) = sm n g := by
  have e1 : ∀ i, i < n → g (σ i) = sm n (fun j => if σ i = j then g j else 0) := fun i hi => by
    rw [sm_one (r := σ i) (h1 i hi) (fun v _ hv => if_neg (fun q => hv q.symm)), if_pos rfl]
  rw [sm_congr e1, sm_comm]
  refine sm_congr (fun j hj => ?_)
  rw [sm_one (r := σ j) (h1 j hj) (fun v hv hne => if_neg (fun q => hne (by rw [← q, h2 v hv]))), if_pos (h2 j hj)]
theorem sw_sm {K f c i j : Nat} (hK1 : 1 ≤ K) (hK : K ≤ 4) (hf : f ≤ 7) (hc : c ∈ cl K f) (hij : i < j) (hj : j < K) {W : Nat → Int} (hW : W i = W j) (g : Int → Nat → Int) : sm K (fun k => g (W k) (dg K (sw K i j c) k)) = sm K (fun k => g (W k) (dg K c k)) := by
  rw [← sm_inv (n := K) (trn i j) (fun k hk => trn_lt (by omega) hj hk) (fun k _ => trn_trn i j k) (fun k => g (W k) (dg K c k))]
  refine sm_congr (fun k hk => ?_)
  rw [(sw_facts hK1 hK hf hc hij hj).2.2 k hk, W_trn hW]
theorem gn_sw {K f f' a b i j : Nat} (hK1 : 1 ≤ K) (hK : K ≤ 4) (hf : f ≤ 7) (hf' : f' ≤ 7) (ha : a ∈ cl K f) (hb : b ∈ cl K f') (hij : i < j) (hj : j < K) {W : Nat → Int} (hW : W i = W j) (t : Int) : gn K W t (sw K i j a) (sw K i j b) = gn K W t a b := by
  unfold gn
  rw [← sm_inv (n := K) (trn i j) (fun k hk => trn_lt (by omega) hj hk) (fun k _ => trn_trn i j k) (fun k => W k * wn t (dg K a k) (dg K b k))]
  refine sm_congr (fun k hk => ?_)
  rw [(sw_facts hK1 hK hf ha hij hj).2.2 k hk, (sw_facts hK1 hK hf' hb hij hj).2.2 k hk, W_trn hW]
/-! what swaps keep, the least alike keeps -/
theorem swp_sw (K : Nat) (E : Nat → Nat → Bool) (i c j : Nat) : swp K E i c j = c ∨ (E i j = true ∧ swp K E i c j = sw K i j c) := by
  unfold swp sw
  by_cases e : E i j = true
  · by_cases q : dg K c j < dg K c i
    · exact Or.inr ⟨e, by rw [if_pos (by rw [e, decide_eq_true q]; rfl), if_pos q]⟩
    · exact Or.inl (if_neg (by rw [Bool.and_eq_true, decide_eq_true_iff]; exact fun h => q h.2))
  · exact Or.inl (if_neg (by rw [Bool.and_eq_true]; exact fun h => e h.1))
theorem lin_inv {K : Nat} {E : Nat → Nat → Bool} {Q : Nat → Prop} (hQ : ∀ c i j, i < j → j < K → E i j = true → Q c → Q (sw K i j c)) {i : Nat} : ∀ (r j c : Nat), j + r ≤ K → i < j → Q c → Q (lin K E i r j c) := by
  intro r
  induction r with
  | zero => intro j c _ _ h; exact h
  | succ r ih =>
    intro j c hj hij h
    show Q (lin K E i r (j + 1) (swp K E i c j))
    refine ih (j + 1) _ (by omega) (by omega) ?_
    rcases swp_sw K E i c j with e | ⟨e1, e2⟩
    · rw [e]; exact h
    · rw [e2]; exact hQ c i j hij (by omega) e1 h
theorem lout_inv {K : Nat} {E : Nat → Nat → Bool} {Q : Nat → Prop} (hQ : ∀ c i j, i < j → j < K → E i j = true → Q c → Q (sw K i j c)) : ∀ (r i c : Nat), i + r ≤ K → Q c → Q (lout K E r i c) := by
  intro r
  induction r with
  | zero => intro i c _ h; exact h
  | succ r ih =>
    intro i c hi h
    show Q (lout K E r (i + 1) (lin K E i (K - (i + 1)) (i + 1) c))
    exact ih (i + 1) _ (by omega) (lin_inv hQ _ _ _ (by omega) (by omega) h)
theorem lsa_inv {K : Nat} {E : Nat → Nat → Bool} {Q : Nat → Prop} (hQ : ∀ c i j, i < j → j < K → E i j = true → Q c → Q (sw K i j c)) {c : Nat} (h : Q c) : Q (lsa K E c) := lout_inv hQ K 0 c (by omega) h
/-! lsa sees worths only by likeness -/
theorem lin_congr {K i : Nat} {E E' : Nat → Nat → Bool} (h : ∀ j, i < j → j < K → E i j = E' i j) : ∀ (r j c : Nat), j + r ≤ K → i < j → lin K E i r j c = lin K E' i r j c := by
  intro r
  induction r with
  | zero => intro j c _ _; rfl
  | succ r ih =>
    intro j c hj hij
    show lin K E i r (j + 1) (swp K E i c j) = lin K E' i r (j + 1) (swp K E' i c j)
    rw [show swp K E i c j = swp K E' i c j from by unfold swp; rw [h j hij (by omega)], ih (j + 1) _ (by omega) (by omega)]
theorem lout_congr {K : Nat} {E E' : Nat → Nat → Bool} (h : ∀ i j, i < j → j < K → E i j = E' i j) : ∀ (r i c : Nat), i + r ≤ K → lout K E r i c = lout K E' r i c := by
  intro r
  induction r with
  | zero => intro i c _; rfl
  | succ r ih =>
    intro i c hi
    show lout K E r (i + 1) (lin K E i (K - (i + 1)) (i + 1) c) = lout K E' r (i + 1) (lin K E' i (K - (i + 1)) (i + 1) c)
    rw [lin_congr (h i) _ _ _ (by omega) (by omega), ih (i + 1) _ (by omega)]
theorem lsa_congr {K : Nat} {E E' : Nat → Nat → Bool} (h : ∀ i j, i < j → j < K → E i j = E' i j) (c : Nat) : lsa K E c = lsa K E' c := lout_congr h K 0 c (by omega)
