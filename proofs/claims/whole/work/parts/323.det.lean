/-! ===== the reference's determinant ===== -/
theorem vpL_at (f : Nat → Int64) (k : Nat) (x : Int64) (j : Nat) : vp_updL f k x j = if j = k then x else f j := rfl
theorem i3_8 {a b : Nat} : (8 : Int32) * i3 (a : Int) + i3 (b : Int) = i3 ((8 * a + b : Nat) : Int) := by
  rw [i3_l8, i3_mul, i3_add]; congr 1
theorem F10_swaps_b2_ok {z a b : Nat} (ha : a < 8) (hb : b < 8) (hab : a ≠ b) : ∀ (rem w j : Nat) (M : Nat → Int64), j + rem = 8 → rem < w → ∃ M', F10_swaps_b2 z w (i3 a) (i3 b) (i3 j) M = some M' ∧ ∀ c d, c < 8 → d < 8 → M' (8 * c + d) = if d < j then M (8 * c + d) else if c = a then M (8 * b + d) else if c = b then M (8 * a + d) else M (8 * c + d) := by
  intro rem
  induction rem with
  | zero =>
    intro w j M hj hw
    obtain ⟨w, rfl⟩ : ∃ w', w = w' + 1 := ⟨w - 1, by omega⟩
    refine ⟨M, ?_, fun c d hc hd => by rw [if_pos (by omega)]⟩
    unfold F10_swaps_b2
    rw [if_pos (by rw [i3_l8, i3_le (by omega) (by omega) (by omega) (by omega)]; omega)]
  | succ rem ih =>
    intro w j M hj hw
    obtain ⟨w, rfl⟩ : ∃ w', w = w' + 1 := ⟨w - 1, by omega⟩
    have hcc : ((j : Nat) : Int) + 1 = ((j + 1 : Nat) : Int) := by omega
    unfold F10_swaps_b2
    rw [if_neg (by rw [i3_l8, i3_le (by omega) (by omega) (by omega) (by omega)]; omega), i3_8, i3_8]
    simp (disch := omega) only [xg_in, i3_xnN]
    rw [i3_l1, i3_add, hcc]
    obtain ⟨M', e, h⟩ := ih w (j + 1) (vp_updL (vp_updL M (8 * a + j) (M (8 * b + j))) (8 * b + j) (M (8 * a + j))) (by omega) (by omega)
    refine ⟨M', e, fun c d hc hd => ?_⟩
    rw [h c d hc hd]
    simp only [vpL_at]
    by_cases h1 : d < j
    · rw [if_pos (by omega), if_pos h1, if_neg (by omega), if_neg (by omega)]
    · by_cases h2 : d = j
      · subst h2
        rw [if_pos (by omega), if_neg h1]
        by_cases h3 : c = a
        · subst h3; rw [if_neg (by omega), if_pos rfl, if_pos rfl]
        · rw [if_neg h3]
          by_cases h4 : c = b
          · subst h4; rw [if_pos rfl, if_pos rfl]
          · rw [if_neg h4, if_neg (by omega), if_neg (by omega)]
      · rw [if_neg (by omega), if_neg h1]
        by_cases h3 : c = a
        · rw [if_pos h3, if_pos h3, if_neg (by omega), if_neg (by omega)]
        · rw [if_neg h3, if_neg h3]
          by_cases h4 : c = b
          · rw [if_pos h4, if_pos h4, if_neg (by omega), if_neg (by omega)]
          · rw [if_neg h4, if_neg h4, if_neg (by omega), if_neg (by omega)]
theorem F10_swaps_ok {z a b : Nat} (hz : 10 ≤ z) (ha : a < 8) (hb : b < 8) (hab : a ≠ b) (M : Nat → Int64) : ∃ M', F10_swaps z (i3 a) (i3 b) M = some M' ∧ ∀ c d, c < 8 → d < 8 → M' (8 * c + d) = if c = a then M (8 * b + d) else if c = b then M (8 * a + d) else M (8 * c + d) := by
  obtain ⟨M', e, h⟩ := F10_swaps_b2_ok (z := z) ha hb hab 8 z 0 M (by omega) (by omega)
  exact ⟨M', e, fun c d hc hd => by rw [h c d hc hd, if_neg (by omega)]⟩
/-- one row, from a column on -/
theorem F10_determinant_b94_ok {z N k i : Nat} (hN : N < 8) (hki : k < i) (hi : i < N) {sg : Int64} {ah : Int} (hah : ah ≠ 0) (hah1 : -1462763520 ≤ ah) (hah2 : ah ≤ 1462763520) {v : Nat → Nat → Int} (hv : ∀ a b, a < N → b < N → k ≤ a → k ≤ b → -1462763520 ≤ v a b ∧ v a b ≤ 1462763520) (k8 : Int32 → Int64 → Int64 → Int32 → (Nat → Int64) → Option (Int64 × (Nat → Int64))) (k82 : Int32 → Int64 → Int64 → Int32 → Int32 → (Nat → Int64) → Option (Int64 × (Nat → Int64))) : ∀ (rem w j : Nat) (M : Nat → Int64), k < j → j + rem = N → rem < w → (∀ b, b < N → k ≤ b → M (8 * k + b) = i6 (v k b)) → (∀ b, b < N → k ≤ b → ¬ (k < b ∧ b < j) → M (8 * i + b) = i6 (v i b)) → ∃ M', F10_determinant_b94 z w (i3 N) sg (i6 ah) (i3 k) (i3 i) (i3 j) M k8 k82 = k82 (i3 N) sg (i6 ah) (i3 k) (i3 ((i + 1 : Nat) : Int)) M' ∧ ∀ a b, a < N → b < N → M' (8 * a + b) = if a = i ∧ j ≤ b then i6 ((v i b * v k k - v i k * v k b).tdiv ah) else M (8 * a + b) := by
  intro rem
  induction rem with
  | zero =>
    intro w j M hkj hj hw hMk hMi
    obtain ⟨w, rfl⟩ : ∃ w', w = w' + 1 := ⟨w - 1, by omega⟩
    refine ⟨M, ?_, fun a b ha hb => by rw [if_neg (by omega)]⟩
    unfold F10_determinant_b94 F10_determinant_b177
    rw [if_pos (by rw [i3_le (by omega) (by omega) (by omega) (by omega)]; omega), i3_l1, i3_add]
    rfl
  | succ rem ih =>
    intro w j M hkj hj hw hMk hMi
    obtain ⟨w, rfl⟩ : ∃ w', w = w' + 1 := ⟨w - 1, by omega⟩
    have hcc : ((j : Nat) : Int) + 1 = ((j + 1 : Nat) : Int) := by omega
    have b1 := hv i j (by omega) (by omega) (by omega) (by omega)
    have b2 := hv k k (by omega) (by omega) (by omega) (by omega)
    have b3 := hv i k (by omega) (by omega) (by omega) (by omega)
    have b4 := hv k j (by omega) (by omega) (by omega) (by omega)
    have p1 := prod_bd b1.1 b1.2 b2.1 b2.2
    have p2 := prod_bd b3.1 b3.2 b4.1 b4.2
    unfold F10_determinant_b94
    rw [if_neg (by rw [i3_le (by omega) (by omega) (by omega) (by omega)]; omega), i3_8, i3_8, i3_8, i3_8]
    simp (disch := omega) only [xg_in, i3_xnN]
    rw [xnzl_i6 _ (by omega) (by omega) hah, hMi j (by omega) (by omega) (by omega), hMk k (by omega) (by omega), hMi k (by omega) (by omega) (by omega), hMk j (by omega) (by omega), i6_mul, i6_mul, i6_sub, i6_div (by omega) (by omega) (by omega) (by omega), i3_l1, i3_add, hcc]
    obtain ⟨M', e, h⟩ := ih w (j + 1) (vp_updL M (8 * i + j) (i6 ((v i j * v k k - v i k * v k j).tdiv ah))) (by omega) (by omega) (by omega) (fun b hb hkb => by
      rw [vpL_at, if_neg (by omega)]
      exact hMk b hb hkb) (fun b hb hkb hne => by
      rw [vpL_at, if_neg (by omega)]
      exact hMi b hb hkb (by omega))
    refine ⟨M', e, fun a b ha hb => ?_⟩
    rw [h a b ha hb, vpL_at]
    by_cases q : a = i ∧ j + 1 ≤ b
    · rw [if_pos q, if_pos (by omega)]
    · rw [if_neg q]
      by_cases q2 : a = i ∧ b = j
      · rw [if_pos (by omega), if_pos (by omega), q2.2]
      · rw [if_neg (by omega), if_neg (by omega)]
theorem F10_determinant_b82_ok {z N k : Nat} (hz : 10 ≤ z) (hN : N < 8) (hkN : k < N) {sg : Int64} {ah : Int} (hah : ah ≠ 0) (hah1 : -1462763520 ≤ ah) (hah2 : ah ≤ 1462763520) {v : Nat → Nat → Int} (hv : ∀ a b, a < N → b < N → k ≤ a → k ≤ b → -1462763520 ≤ v a b ∧ v a b ≤ 1462763520) (k8 : Int32 → Int64 → Int64 → Int32 → (Nat → Int64) → Option (Int64 × (Nat → Int64))) : ∀ (rem w i : Nat) (M : Nat → Int64), k < i → i + rem = N → rem < w → (∀ a b, a < N → b < N → k ≤ a → k ≤ b → M (8 * a + b) = i6 (if k < a ∧ a < i ∧ k < b then (v a b * v k k - v a k * v k b).tdiv ah else v a b)) → ∃ M', F10_determinant_b82 z w (i3 N) sg (i6 ah) (i3 k) (i3 i) M k8 = k8 (i3 N) sg (i6 (v k k)) (i3 ((k + 1 : Nat) : Int)) M' ∧ ∀ a b, a < N → b < N → k < a → k < b → M' (8 * a + b) = i6 ((v a b * v k k - v a k * v k b).tdiv ah) := by
  intro rem
  induction rem with
  | zero =>
    intro w i M hki hi hw hM
    obtain ⟨w, rfl⟩ : ∃ w', w = w' + 1 := ⟨w - 1, by omega⟩
    refine ⟨M, ?_, fun a b ha hb hka hkb => by rw [hM a b ha hb (by omega) (by omega), if_pos (by omega)]⟩
    unfold F10_determinant_b82 F10_determinant_b183
    rw [if_pos (by rw [i3_le (by omega) (by omega) (by omega) (by omega)]; omega), i3_8]
    simp (disch := omega) only [xg_in, i3_xnN]
    rw [hM k k hkN hkN (by omega) (by omega), if_neg (by omega), i3_l1, i3_add]
    rfl
  | succ rem ih =>
    intro w i M hki hi hw hM
    obtain ⟨w, rfl⟩ : ∃ w', w = w' + 1 := ⟨w - 1, by omega⟩
    unfold F10_determinant_b82
    rw [if_neg (by rw [i3_le (by omega) (by omega) (by omega) (by omega)]; omega), i3_l1, i3_add]
    obtain ⟨M', e, h⟩ := F10_determinant_b94_ok (z := z) (sg := sg) hN hki (show i < N by omega) hah hah1 hah2 hv k8 (fun q0 q1 q2 q3 q4 q5 => F10_determinant_b82 z w q0 q1 q2 q3 q4 q5 k8) (N - (k + 1)) z (k + 1) M (by omega) (by omega) (by omega) (fun b hb hkb => by
      rw [hM k b hkN hb (by omega) hkb, if_neg (by omega)]) (fun b hb hkb hne => by
      rw [hM i b (by omega) hb (by omega) hkb, if_neg (by omega)])
    rw [show ((k : Nat) : Int) + 1 = ((k + 1 : Nat) : Int) by omega, e]
    refine ih w (i + 1) M' (by omega) (by omega) (by omega) (fun a b ha hb hka hkb => ?_)
    rw [h a b ha hb]
    by_cases q : a = i ∧ k + 1 ≤ b
    · rw [if_pos q, if_pos (by omega), q.1]
    · rw [if_neg q, hM a b ha hb hka hkb]
      congr 1
      by_cases q2 : k < a ∧ a < i ∧ k < b
      · rw [if_pos q2, if_pos (by omega)]
      · rw [if_neg q2, if_neg (by omega)]
/-- bounds of a system's vectors -/
def bw (N q : Nat) : Int := if q + 1 < N then 8 else 1
theorem bw_le : (List.range 8).all (fun N => decide (pm N (fun _ q => bw N q) ≤ 1462763520)) = true := by decide +kernel
theorem dt_bw {N : Nat} (hN : N < 8) {M : Nat → Nat → Int} (h : ∀ i q, i < N → q < N → - bw N q ≤ M i q ∧ M i q ≤ bw N q) : -1462763520 ≤ dt N M ∧ dt N M ≤ 1462763520 := by
  have h1 := dt_bound (n := N) (M := M) (b := fun _ q => bw N q) h
  have h2 : pm N (fun _ q => bw N q) ≤ 1462763520 := of_decide_eq_true (List.all_eq_true.mp bw_le N (List.mem_range.mpr hN))
  omega
/-- the state of the elimination -/
def BS (N k : Nat) (W : Nat → Nat → Int) (sg : Int) (B : Nat → Nat → Int) (M : Nat → Int64) : Prop :=
  (sg = 1 ∨ sg = -1) ∧ CR N B ∧ dt N B ≠ 0 ∧ (∀ i, i < k → B i = W i) ∧ (∀ i q, i < N → q < N → - bw N q ≤ B i q ∧ B i q ≤ bw N q) ∧ (∀ a b, a < N → b < N → k ≤ a → k ≤ b → M (8 * a + b) = i6 (sg * dt N (st B a (W b))))
theorem BS_v {N k : Nat} (hN : N < 8) {W : Nat → Nat → Int} {sg : Int} {B : Nat → Nat → Int} {M : Nat → Int64} (h : BS N k W sg B M) (hW : ∀ i q, i < N → q < N → - bw N q ≤ W i q ∧ W i q ≤ bw N q) : ∀ a b, a < N → b < N → -1462763520 ≤ sg * dt N (st B a (W b)) ∧ sg * dt N (st B a (W b)) ≤ 1462763520 := by
  intro a b ha hb
  have h1 := dt_bw hN (M := st B a (W b)) (fun i q hi hq => by
    unfold st
    split
    · exact hW b q hb hq
    · exact h.2.2.2.2.1 i q hi hq)
  rcases h.1 with e | e <;> rw [e] <;> omega
theorem F10_determinant_b76_ok {z N k : Nat} (hz : 10 ≤ z) (hN : N < 8) (hkN : k < N) {W : Nat → Nat → Int} {sg : Int} {B : Nat → Nat → Int} {M : Nat → Int64} (h : BS N k W sg B M) (hW : ∀ i q, i < N → q < N → - bw N q ≤ W i q ∧ W i q ≤ bw N q) (hp : dt N (st B k (W k)) ≠ 0) (k8 : Int32 → Int64 → Int64 → Int32 → (Nat → Int64) → Option (Int64 × (Nat → Int64))) : ∃ M' B', F10_determinant_b76 z (i3 N) (i6 sg) (i6 (sg * dt N B)) (i3 k) M k8 = k8 (i3 N) (i6 sg) (i6 (sg * dt N B')) (i3 ((k + 1 : Nat) : Int)) M' ∧ BS N (k + 1) W sg B' M' := by
  have hv := BS_v hN h hW
  obtain ⟨hs, hC, hD, hB, hbd, hM⟩ := h
  have hDb := dt_bw hN hbd
  have hss : sg * sg = 1 := by rcases hs with e | e <;> rw [e] <;> decide
  have hah : sg * dt N B ≠ 0 := by rcases hs with e | e <;> rw [e] <;> omega
  have hahb : -1462763520 ≤ sg * dt N B ∧ sg * dt N B ≤ 1462763520 := by rcases hs with e | e <;> rw [e] <;> omega
  obtain ⟨M', e, h2⟩ := F10_determinant_b82_ok (z := z) (sg := i6 sg) hz hN hkN hah hahb.1 hahb.2 (v := fun a b => sg * dt N (st B a (W b))) (fun a b ha hb _ _ => hv a b ha hb) k8 (N - (k + 1)) z (k + 1) M (by omega) (by omega) (by omega) (fun a b ha hb hka hkb => by rw [hM a b ha hb hka hkb, if_neg (by omega)])
  refine ⟨M', st B k (W k), ?_, hs, CR_ex hC hD hkN _, hp, fun i hi => ?_, fun i q hi hq => ?_, fun a b ha hb hka hkb => ?_⟩
  · unfold F10_determinant_b76
    rw [i3_l1, i3_add]
    exact e
  · by_cases q : i = k
    · rw [q, st_self]
    · rw [st_ne _ _ q]; exact hB i (by omega)
  · unfold st
    split
    · exact hW k q hkN hq
    · exact hbd i q hi hq
  · rw [h2 a b ha hb (by omega) (by omega)]
    congr 1
    have hex := dt_ex hC hkN ha (show k ≠ a by omega) (W k) (W b)
    have e2 : sg * dt N (st B a (W b)) * (sg * dt N (st B k (W k))) - sg * dt N (st B a (W k)) * (sg * dt N (st B k (W b))) = (sg * dt N B) * (sg * dt N (st (st B k (W k)) a (W b))) := by grind
    show (sg * dt N (st B a (W b)) * (sg * dt N (st B k (W k))) - sg * dt N (st B a (W k)) * (sg * dt N (st B k (W b)))).tdiv (sg * dt N B) = _
    rw [e2, Int.mul_tdiv_cancel_left _ hah]
theorem F10_determinant_b20_ok {z N k : Nat} (hN : N < 8) (hkN : k < N) {W : Nat → Nat → Int} {sg : Int} {B : Nat → Nat → Int} {M : Nat → Int64} (h : BS N k W sg B M) (hW : ∀ i q, i < N → q < N → - bw N q ≤ W i q ∧ W i q ≤ bw N q) (ah : Int64) (k8 : Int32 → Int64 → Int64 → Int32 → (Nat → Int64) → Option (Int64 × (Nat → Int64))) : ∀ (rem w p : Nat), k ≤ p → p + rem = N → rem < w → (∀ i, k ≤ i → i < p → dt N (st B i (W k)) = 0) → ((∀ i, k ≤ i → i < N → dt N (st B i (W k)) = 0) ∧ F10_determinant_b20 z w (i3 N) (i6 sg) ah (i3 k) (i3 p) M k8 = some (0, M)) ∨ (∃ p' : Nat, k ≤ p' ∧ p' < N ∧ dt N (st B p' (W k)) ≠ 0 ∧ F10_determinant_b20 z w (i3 N) (i6 sg) ah (i3 k) (i3 p) M k8 = F10_determinant_b50 z (i3 N) (i6 sg) ah (i3 k) (i3 p') M k8) := by
  have hv := BS_v hN h hW
  obtain ⟨hs, hC, hD, hB, hbd, hM⟩ := h
  intro rem
  induction rem with
  | zero =>
    intro w p hkp hp hw hz
    obtain ⟨w, rfl⟩ : ∃ w', w = w' + 1 := ⟨w - 1, by omega⟩
    left
    refine ⟨fun i h1 h2 => hz i h1 (by omega), ?_⟩
    have e : p = N := by omega
    subst e
    unfold F10_determinant_b20 F10_determinant_b50
    rw [if_pos (by rw [i3_le (by omega) (by omega) (by omega) (by omega)]; omega), if_pos rfl]
  | succ rem ih =>
    intro w p hkp hp hw hz
    obtain ⟨w, rfl⟩ : ∃ w', w = w' + 1 := ⟨w - 1, by omega⟩
    have hb := hv p k (by omega) hkN
    unfold F10_determinant_b20
    rw [if_neg (by rw [i3_le (by omega) (by omega) (by omega) (by omega)]; omega), i3_8]
    simp (disch := omega) only [xg_in, i3_xnN]
    rw [hM p k (by omega) hkN hkp (by omega)]
    by_cases q : dt N (st B p (W k)) = 0
    · rw [q, Int.mul_zero, i6_l0, cmp_eq, if_pos rfl, i3_l1, i3_add]
      exact ih w (p + 1) (by omega) (by omega) (by omega) (fun i h1 h2 => by
        by_cases e : i = p
        · rw [e]; exact q
        · exact hz i h1 (by omega))
    · right
      refine ⟨p, hkp, by omega, q, ?_⟩
      have hne : sg * dt N (st B p (W k)) ≠ 0 := by rcases hs with e | e <;> rw [e] <;> omega
      rw [if_neg]
      rw [i6_l0]
      by_cases q2 : sg * dt N (st B p (W k)) < 0
      · rw [cmp_lt (by omega) (by omega) (by omega) (by omega) q2]; decide
      · rw [cmp_gt (by omega) (by omega) (by omega) (by omega) (by omega)]; decide
/-- rows changed for one another -/
theorem BS_swap {N k p : Nat} (hN : N < 8) (hkN : k < N) (hkp : k < p) (hpN : p < N) {W : Nat → Nat → Int} {sg : Int} {B : Nat → Nat → Int} {M M' : Nat → Int64} (h : BS N k W sg B M) (hM' : ∀ c d, c < 8 → d < 8 → M' (8 * c + d) = if c = k then M (8 * p + d) else if c = p then M (8 * k + d) else M (8 * c + d)) : BS N k W (- sg) (st (st B k (B p)) p (B k)) M' ∧ - sg * dt N (st (st B k (B p)) p (B k)) = sg * dt N B ∧ dt N (st (st (st B k (B p)) p (B k)) k (W k)) = - dt N (st B p (W k)) := by
  obtain ⟨hs, hC, hD, hB, hbd, hM⟩ := h
  obtain ⟨hC', hD'⟩ := CR_swap hC hD hkN hpN (show k ≠ p by omega)
  have hne : k ≠ p := by omega
  -- the three cases of a place
  have e1 : ∀ u : Nat → Int, dt N (st (st (st B k (B p)) p (B k)) k u) = - dt N (st B p u) := fun u => by
    rw [st_comm (st B k (B p)) _ _ (fun q => hne q.symm), st_st, dt_swap B hkN hpN hne u (B k), st_id]
  have e2 : ∀ u : Nat → Int, dt N (st (st (st B k (B p)) p (B k)) p u) = - dt N (st B k u) := fun u => by
    rw [st_st, dt_swap B hkN hpN hne (B p) u, st_comm B _ _ hne, st_id]
  have e3 : ∀ (a : Nat) (u : Nat → Int), a < N → a ≠ k → a ≠ p → dt N (st (st (st B k (B p)) p (B k)) a u) = - dt N (st B a u) := fun a u ha h1 h2 => by
    rw [st_comm (st B k (B p)) _ _ (fun q => h2 q.symm), st_comm B _ _ (fun q => h1 q.symm)]
    have := dt_swap (st B a u) hkN hpN hne (B p) (B k)
    rw [this]
    congr 2
    rw [st_comm B u (B k) h1, st_id, st_comm B u (B p) h2, st_id]
  refine ⟨⟨by omega, hC', by rw [hD']; omega, fun i hi => ?_, fun i q hi hq => ?_, fun a b ha hb hka hkb => ?_⟩, by rw [hD']; grind, e1 (W k)⟩
  · rw [st_ne _ _ (by omega), st_ne _ _ (by omega)]; exact hB i hi
  · unfold st
    split
    · exact hbd k q hkN hq
    · split
      · exact hbd p q hpN hq
      · exact hbd i q hi hq
  · rw [hM' a b (by omega) (by omega)]
    by_cases h1 : a = k
    · subst h1
      rw [if_pos rfl, hM p b hpN hb (by omega) hkb, e1]
      congr 1; grind
    · rw [if_neg h1]
      by_cases h2 : a = p
      · subst h2
        rw [if_pos rfl, hM k b hkN hb (by omega) hkb, e2]
        congr 1; grind
      · rw [if_neg h2, hM a b ha hb hka hkb, e3 a (W b) ha h1 h2]
        congr 1; grind
theorem F10_determinant_b8_ok {z N : Nat} (hz : 10 ≤ z) (hN : N < 8) (hN1 : 1 ≤ N) {W : Nat → Nat → Int} (hW : ∀ i q, i < N → q < N → - bw N q ≤ W i q ∧ W i q ≤ bw N q) : ∀ (rem w k : Nat) (sg : Int) (B : Nat → Nat → Int) (M : Nat → Int64), k + rem = N - 1 → rem < w → BS N k W sg B M → ∃ M', F10_determinant_b8 z w (i3 N) (i6 sg) (i6 (sg * dt N B)) (i3 k) M = some (i6 (dt N W), M') := by
  intro rem
  induction rem with
  | zero =>
    intro w k sg B M hk hw h
    obtain ⟨w, rfl⟩ : ∃ w', w = w' + 1 := ⟨w - 1, by omega⟩
    have hv := BS_v hN h hW
    obtain ⟨hs, hC, hD, hB, hbd, hM⟩ := h
    refine ⟨M, ?_⟩
    have e : k = N - 1 := by omega
    have e2 : (8 : Int32) * (i3 (N : Int) - 1) + i3 (N : Int) - 1 = i3 ((8 * (N - 1) + (N - 1) : Nat) : Int) := by
      rw [i3_l8, i3_l1, i3_sub, i3_mul, i3_add, i3_sub]; congr 1; omega
    unfold F10_determinant_b8 F10_determinant_b204
    rw [e2, if_pos (by rw [i3_l1, i3_sub, i3_le (by omega) (by omega) (by omega) (by omega)]; omega)]
    simp (disch := omega) only [xg_in, i3_xnN]
    rw [hM (N - 1) (N - 1) (by omega) (by omega) (by omega) (by omega), i6_mul]
    congr 3
    have e3 : dt N (st B (N - 1) (W (N - 1))) = dt N W := dt_congr (fun i hi q hq => by
      unfold st
      split
      · rename_i q2; rw [q2]
      · rw [hB i (by omega)])
    rw [e3]
    rcases hs with q | q <;> rw [q] <;> omega
  | succ rem ih =>
    intro w k sg B M hk hw h
    obtain ⟨w, rfl⟩ : ∃ w', w = w' + 1 := ⟨w - 1, by omega⟩
    have hkN : k < N := by omega
    unfold F10_determinant_b8
    rw [if_neg (by rw [i3_l1, i3_sub, i3_le (by omega) (by omega) (by omega) (by omega)]; omega)]
    rcases F10_determinant_b20_ok (z := z) hN hkN h hW (i6 (sg * dt N B)) (fun q0 q1 q2 q3 q4 => F10_determinant_b8 z w q0 q1 q2 q3 q4) (N - k) z k (Nat.le_refl _) (by omega) (by omega) (fun i h1 h2 => by omega) with ⟨hz0, e⟩ | ⟨p, hkp, hpN, hp, e⟩
    · -- dependent: nothing but 0
      refine ⟨M, ?_⟩
      rw [e]
      obtain ⟨hs, hC, hD, hB, hbd, hM⟩ := h
      have hdep : dt N W = 0 := by
        have hc := dt_comb W hkN (fun i => if i = k then dt N B else if i < k then - dt N (st B i (W k)) else 0) (fun q hq => by
          have h1 := hC (W k) q hq
          have e : sm N (fun i => (if i = k then dt N B else if i < k then - dt N (st B i (W k)) else 0) * W i q) = sm N (fun i => (if i = k then dt N B * W k q else 0) - dt N (st B i (W k)) * B i q) := sm_congr (fun i hi => by
            by_cases h2 : i = k
            · subst h2; rw [if_pos rfl, if_pos rfl, hz0 i (by omega) hi]; simp
            · rw [if_neg h2, if_neg h2]
              by_cases h3 : i < k
              · rw [if_pos h3, hB i h3, Int.neg_mul]; omega
              · rw [if_neg h3, hz0 i (by omega) hi]; simp)
          rw [e, sm_sub, sm_if_eq hkN, ← h1]
          omega)
        simp only [if_true] at hc
        rcases Int.mul_eq_zero.mp hc with q | q
        · exact absurd q hD
        · exact q
      rw [hdep]; rfl
    · rw [e]
      unfold F10_determinant_b50
      rw [if_neg (by rw [i3_eq (by omega) (by omega) (by omega) (by omega)]; omega)]
      by_cases hpk : p = k
      · subst hpk
        rw [if_pos rfl]
        obtain ⟨M', B', e2, h2⟩ := F10_determinant_b76_ok hz hN hkN h hW hp (fun q0 q1 q2 q3 q4 => F10_determinant_b8 z w q0 q1 q2 q3 q4)
        rw [e2]
        exact ih w (p + 1) sg B' M' (by omega) (by omega) h2
      · rw [if_neg (by rw [i3_eq (by omega) (by omega) (by omega) (by omega)]; omega)]
        obtain ⟨M1, e1, h1⟩ := F10_swaps_ok hz (show k < 8 by omega) (show p < 8 by omega) (fun q => hpk q.symm) M
        rw [e1]
        simp only [Option.bind_some]
        obtain ⟨hS, hd, hpv⟩ := BS_swap hN hkN (show k < p by omega) hpN h h1
        obtain ⟨M', B', e2, h2⟩ := F10_determinant_b76_ok hz hN hkN hS hW (by rw [hpv]; omega) (fun q0 q1 q2 q3 q4 => F10_determinant_b8 z w q0 q1 q2 q3 q4)
        rw [hd] at e2
        rw [i6_neg, e2]
        exact ih w (k + 1) (- sg) B' M' (by omega) (by omega) h2
theorem F10_determinant_ok {z N : Nat} (hz : 10 ≤ z) (hN : N < 8) (hN1 : 1 ≤ N) {W : Nat → Nat → Int} (hW : ∀ i q, i < N → q < N → - bw N q ≤ W i q ∧ W i q ≤ bw N q) {M : Nat → Int64} (hM : ∀ a b, a < N → b < N → M (8 * a + b) = i6 (W b a)) : ∃ M', F10_determinant z (i3 N) M = some (i6 (dt N W), M') := by
  obtain ⟨M', e⟩ := F10_determinant_b8_ok hz hN hN1 hW (N - 1) z 0 1 un M (by omega) (by omega) ⟨Or.inl rfl, CR_un N, by rw [dt_un]; decide, fun i hi => by omega, fun i q hi hq => by
    unfold un bw
    split <;> split <;> decide, fun a b ha hb _ _ => by
    rw [hM a b ha hb, dt_un_st ha, Int.one_mul]⟩
  rw [dt_un] at e
  exact ⟨M', e⟩
