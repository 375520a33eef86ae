/-! ===== even plans: the class levels like fields ===== -/
def al (K : Nat) (W : Nat → Int) (k : Nat) : Int := sm K (fun k' => if W k' = W k then 1 else 0)
theorem al_bd {K k : Nat} (hK : K ≤ 4) (hk : k < K) (W : Nat → Int) : 1 ≤ al K W k ∧ al K W k ≤ 4 := by
  have h1 := sm_bdB (B := 1) (n := K) (f := fun k' => if W k' = W k then (1 : Int) else 0) (fun k' _ => by
    show 0 ≤ (if W k' = W k then (1 : Int) else 0) ∧ (if W k' = W k then (1 : Int) else 0) ≤ 1
    split <;> omega)
  have h2 := sm_ge_one (n := K) (r := k) (f := fun k' => if W k' = W k then (1 : Int) else 0) hk (fun j _ => by
    show 0 ≤ (if W j = W k then (1 : Int) else 0)
    split <;> omega)
  simp only [if_true] at h2
  unfold al
  omega
theorem al_12 {a : Int} (h1 : 1 ≤ a) (h2 : a ≤ 4) : a * (12 / a) = 12 ∧ a * (24 / a) = 24 ∧ 24 / a = 2 * (12 / a) ∧ 1 ≤ 12 / a ∧ 12 / a ≤ 12 := by
  rcases (show a = 1 ∨ a = 2 ∨ a = 3 ∨ a = 4 by omega) with rfl | rfl | rfl | rfl <;> decide
def lvl (K : Nat) (W : Nat → Int) (m : Nat → Nat → Int) (k v : Nat) : Int := sm K (fun k' => if W k' = W k then m k' v else 0) * (12 / al K W k)
theorem lvl_like {K : Nat} {W : Nat → Int} {m : Nat → Nat → Int} {k r v : Nat} (h : W k = W r) : lvl K W m k v = lvl K W m r v := by
  unfold lvl al
  rw [h]
theorem isFirst_ok {z K r : Nat} (hz : 20 ≤ z) {W : Nat → Int} {t : Int} (hV : Vd K W t) (hr : r < K) {worth : Nat → Int32} (hw : ∀ k, k < K → worth k = i3 (W k)) : ((∀ j, j < r → W j ≠ W r) → F6_isFirstAlike z (i3 r) worth = some 1) ∧ ((∃ j, j < r ∧ W j = W r) → F6_isFirstAlike z (i3 r) worth = some 0) := by
  have hK := hV.2.1
  have wr := Vd_w hV hr
  have loop : ∀ (rem w k : Nat), k + rem = r → rem < w → (∀ j, j < k → W j ≠ W r) → ((∀ j, j < r → W j ≠ W r) → F6_isFirstAlike_b2 z w (i3 r) (i3 k) worth = some 1) ∧ ((∃ j, j < r ∧ W j = W r) → F6_isFirstAlike_b2 z w (i3 r) (i3 k) worth = some 0) := by
    intro rem
    induction rem with
    | zero =>
      intro w k hk hw' h
      obtain ⟨w, rfl⟩ : ∃ w', w = w' + 1 := ⟨w - 1, by omega⟩
      unfold F6_isFirstAlike_b2
      rw [if_pos (by rw [i3_le (by omega) (by omega) (by omega) (by omega)]; omega)]
      exact ⟨fun _ => rfl, fun ⟨j, hj, e⟩ => absurd e (h j (by omega))⟩
    | succ rem ih =>
      intro w k hk hw' h
      obtain ⟨w, rfl⟩ : ∃ w', w = w' + 1 := ⟨w - 1, by omega⟩
      have wk := Vd_w hV (show k < K by omega)
      unfold F6_isFirstAlike_b2
      rw [if_neg (by rw [i3_le (by omega) (by omega) (by omega) (by omega)]; omega)]
      simp (disch := omega) only [xg_in, i3_xnN]
      rw [hw k (by omega), hw r hr, show i3 (k : Int) + 1 = i3 ((k + 1 : Nat) : Int) from by rw [i3_l1, i3_add]; rfl]
      by_cases q : W k = W r
      · rw [if_pos (show i3 (W k) = i3 (W r) by rw [q])]
        exact ⟨fun h2 => absurd q (h2 k (by omega)), fun _ => rfl⟩
      · rw [if_neg (show ¬ i3 (W k) = i3 (W r) by rw [i3_eq (by omega) (by omega) (by omega) (by omega)]; exact q)]
        refine ih w (k + 1) (by omega) (by omega) (fun j hj => ?_)
        by_cases e : j = k
        · rw [e]; exact q
        · exact h j (by omega)
  exact loop r z 0 (by omega) (by omega) (fun j hj => absurd hj (Nat.not_lt_zero j))
theorem levelAlike_ok {z K r : Nat} (hz : 20 ≤ z) {W : Nat → Int} {t : Int} (hV : Vd K W t) (hr : r < K) {worth : Nat → Int32} (hw : ∀ k, k < K → worth k = i3 (W k)) {m : Nat → Nat → Int} (hb : ∀ k v, k < K → v < 8 → 0 ≤ m k v ∧ m k v ≤ 100000) {mass : Nat → Nat → Int32} (hm : ∀ k v, k < K → v < 8 → W k = W r → mass k v = i3 (m k v)) : ∃ mass', F6_levelAlike z (i3 (W r)) mass (i3 K) worth = some mass' ∧ (∀ k v, k < K → v < 8 → W k = W r → mass' k v = i3 (lvl K W m k v)) ∧ (∀ k v, k < K → v < 8 → W k ≠ W r → mass' k v = mass k v) := by
  have hK := hV.2.1
  have wr := Vd_w hV hr
  have ab := al_bd hK hr W
  have a12 := al_12 ab.1 ab.2
  have sums : ∀ (v : Nat), v < 8 → ∀ (mass : Nat → Nat → Int32) (k2 : Int32 → Int32 → (Nat → Nat → Int32) → Int32 → (Nat → Int32) → Option (Nat → Nat → Int32)), (∀ k, k < K → W k = W r → mass k v = i3 (m k v)) → ∀ (rem w k : Nat), k + rem = K → rem < w → F6_levelAlike_b17 z w (i3 (W r)) (i3 v) (i3 (sm k (fun k' => if W k' = W r then m k' v else 0))) (i3 (sm k (fun k' => if W k' = W r then 1 else 0))) (i3 k) mass (i3 K) worth k2 = F6_levelAlike_b77 z (i3 (W r)) (i3 v) (i3 (lvl K W m r v)) mass (i3 K) worth k2 := by
    intro v hv mass k2 hm rem
    induction rem with
    | zero =>
      intro w k hk hw'
      obtain ⟨w, rfl⟩ : ∃ w', w = w' + 1 := ⟨w - 1, by omega⟩
      obtain rfl : k = K := by omega
      have sb := sm_bdB (B := 100000) (n := k) (f := fun k' => if W k' = W r then m k' v else 0) (fun k' hk' => by
        have := hb k' v hk' hv
        show 0 ≤ (if W k' = W r then m k' v else 0) ∧ (if W k' = W r then m k' v else 0) ≤ 100000
        split <;> omega)
      unfold F6_levelAlike_b17
      rw [if_pos (by rw [i3_le (by omega) (by omega) (by omega) (by omega)]; omega)]
      unfold F6_levelAlike_b60
      show (if i3 (al k W r) ≤ 0 then _ else _) = _
      rw [if_neg (show ¬ i3 (al k W r) ≤ 0 by rw [i3_l0, i3_le (by omega) (by omega) (by omega) (by omega)]; omega)]
      show xg (xnz (i3 (al k W r))) (F6_levelAlike_b77 z (i3 (W r)) (i3 v) ((i3 (sm k (fun k' => if W k' = W r then m k' v else 0)) * 12) / i3 (al k W r)) mass (i3 k) worth k2) = _
      rw [xnz_i3 _ (by omega) (by omega) (by omega), i3_l12, i3_mul, i3_div (by omega) (by omega) (by omega) (by omega)]
      unfold lvl
      rw [show (sm k (fun k' => if W k' = W r then m k' v else 0) * 12).tdiv (al k W r) = sm k (fun k' => if W k' = W r then m k' v else 0) * (12 / al k W r) from by
        have e : sm k (fun k' => if W k' = W r then m k' v else 0) * 12 = sm k (fun k' => if W k' = W r then m k' v else 0) * (12 / al k W r) * al k W r := by
          rw [Int.mul_assoc, Int.mul_comm (12 / al k W r), a12.1]
        rw [e, Int.mul_tdiv_cancel _ (by omega)]]
    | succ rem ih =>
      intro w k hk hw'
      obtain ⟨w, rfl⟩ : ∃ w', w = w' + 1 := ⟨w - 1, by omega⟩
      have hk' : k < K := by omega
      have wk := Vd_w hV hk'
      have ih' : F6_levelAlike_b17 z w (i3 (W r)) (i3 v) (i3 (sm k (fun k' => if W k' = W r then m k' v else 0) + (if W k = W r then m k v else 0))) (i3 (sm k (fun k' => if W k' = W r then 1 else 0) + (if W k = W r then 1 else 0))) (i3 (k + 1 : Nat)) mass (i3 K) worth k2 = _ := ih w (k + 1) (by omega) (by omega)
      unfold F6_levelAlike_b17
      rw [if_neg (show ¬ i3 (K : Int) ≤ i3 (k : Int) by rw [i3_le (by omega) (by omega) (by omega) (by omega)]; omega)]
      simp (disch := omega) only [xg_in, i3_xnN]
      unfold F6_levelAlike_b54
      rw [hw k hk', show i3 (k : Int) + 1 = i3 ((k + 1 : Nat) : Int) from by rw [i3_l1, i3_add]; rfl]
      by_cases q : W k = W r
      · rw [if_pos (show i3 (W k) = i3 (W r) by rw [q]), hm k hk' q, i3_add, i3_l1, i3_add]
        rw [if_pos q, if_pos q] at ih'
        exact ih'
      · rw [if_neg (show ¬ i3 (W k) = i3 (W r) by rw [i3_eq (by omega) (by omega) (by omega) (by omega)]; exact q)]
        rw [if_neg q, if_neg q, Int.add_zero, Int.add_zero] at ih'
        exact ih'
  have puts : ∀ (v : Nat), v < 8 → ∀ (X : Int) (k2 : Int32 → Int32 → (Nat → Nat → Int32) → Int32 → (Nat → Int32) → Option (Nat → Nat → Int32)) (rem w k : Nat) (mass : Nat → Nat → Int32), k + rem = K → rem < w → ∃ mass', F6_levelAlike_b82 z w (i3 (W r)) (i3 v) (i3 X) (i3 k) mass (i3 K) worth k2 = k2 (i3 (W r)) (i3 (v + 1 : Nat)) mass' (i3 K) worth ∧ ∀ k' v', k' < K → mass' k' v' = if k ≤ k' ∧ W k' = W r ∧ v' = v then i3 X else mass k' v' := by
    intro v hv X k2 rem
    induction rem with
    | zero =>
      intro w k mass hk hw'
      obtain ⟨w, rfl⟩ : ∃ w', w = w' + 1 := ⟨w - 1, by omega⟩
      refine ⟨mass, ?_, fun k' v' hk' => by rw [if_neg (fun h => by omega)]⟩
      unfold F6_levelAlike_b82
      rw [if_pos (by rw [i3_le (by omega) (by omega) (by omega) (by omega)]; omega)]
      unfold F6_levelAlike_b119
      rw [show i3 (v : Int) + 1 = i3 ((v + 1 : Nat) : Int) from by rw [i3_l1, i3_add]; rfl]
    | succ rem ih =>
      intro w k mass hk hw'
      obtain ⟨w, rfl⟩ : ∃ w', w = w' + 1 := ⟨w - 1, by omega⟩
      have hk' : k < K := by omega
      have wk := Vd_w hV hk'
      unfold F6_levelAlike_b82
      rw [if_neg (show ¬ i3 (K : Int) ≤ i3 (k : Int) by rw [i3_le (by omega) (by omega) (by omega) (by omega)]; omega)]
      simp (disch := omega) only [xg_in, i3_xnN]
      unfold F6_levelAlike_b113
      rw [hw k hk', show i3 (k : Int) + 1 = i3 ((k + 1 : Nat) : Int) from by rw [i3_l1, i3_add]; rfl]
      by_cases q : W k = W r
      · rw [if_pos (show i3 (W k) = i3 (W r) by rw [q])]
        obtain ⟨mass', e1, h1⟩ := ih w (k + 1) (va_up mass k (upd (mass k) v (i3 X))) (by omega) (by omega)
        refine ⟨mass', e1, fun k' v' hk2 => ?_⟩
        rw [h1 k' v' hk2]
        by_cases e : k' = k
        · subst e
          rw [if_neg (fun h => by omega), va_up_self]
          by_cases e2 : v' = v
          · subst e2; rw [upd_same, if_pos ⟨Nat.le_refl _, q, rfl⟩]
          · rw [upd_diff _ _ e2, if_neg (fun h => e2 h.2.2)]
        · rw [va_up_ne _ _ e]
          by_cases c : k + 1 ≤ k' ∧ W k' = W r ∧ v' = v
          · rw [if_pos c, if_pos ⟨by omega, c.2⟩]
          · rw [if_neg c, if_neg (fun h => c ⟨by omega, h.2⟩)]
      · rw [if_neg (show ¬ i3 (W k) = i3 (W r) by rw [i3_eq (by omega) (by omega) (by omega) (by omega)]; exact q)]
        obtain ⟨mass', e1, h1⟩ := ih w (k + 1) mass (by omega) (by omega)
        refine ⟨mass', e1, fun k' v' hk2 => ?_⟩
        rw [h1 k' v' hk2]
        by_cases c : k + 1 ≤ k' ∧ W k' = W r ∧ v' = v
        · rw [if_pos c, if_pos ⟨by omega, c.2⟩]
        · rw [if_neg c, if_neg (fun h => c ⟨by
            by_cases e : k' = k
            · subst e; exact absurd h.2.1 q
            · omega, h.2⟩)]
  have all : ∀ (rem w v : Nat) (mass1 : Nat → Nat → Int32), v + rem = 8 → rem < w → (∀ k v', k < K → v' < 8 → W k = W r → mass1 k v' = if v' < v then i3 (lvl K W m k v') else i3 (m k v')) → (∀ k v', k < K → v' < 8 → W k ≠ W r → mass1 k v' = mass k v') → ∃ mass', F6_levelAlike_b2 z w (i3 (W r)) (i3 v) mass1 (i3 K) worth = some mass' ∧ (∀ k v, k < K → v < 8 → W k = W r → mass' k v = i3 (lvl K W m k v)) ∧ (∀ k v, k < K → v < 8 → W k ≠ W r → mass' k v = mass k v) := by
    intro rem
    induction rem with
    | zero =>
      intro w v mass1 hv hw' h1 h2
      obtain ⟨w, rfl⟩ : ∃ w', w = w' + 1 := ⟨w - 1, by omega⟩
      refine ⟨mass1, ?_, fun k v' hk hv' e => by rw [h1 k v' hk hv' e, if_pos (by omega)], h2⟩
      unfold F6_levelAlike_b2
      rw [if_pos (by rw [i3_l7, i3_lt (by omega) (by omega) (by omega) (by omega)]; omega)]
    | succ rem ih =>
      intro w v mass1 hv hw' h1 h2
      obtain ⟨w, rfl⟩ : ∃ w', w = w' + 1 := ⟨w - 1, by omega⟩
      unfold F6_levelAlike_b2
      rw [if_neg (by rw [i3_l7, i3_lt (by omega) (by omega) (by omega) (by omega)]; omega)]
      have e1 := sums v (by omega) mass1 (fun q0 q1 q2 q3 q4 => F6_levelAlike_b2 z w q0 q1 q2 q3 q4) (fun k hk e => by rw [h1 k v hk (by omega) e, if_neg (Nat.lt_irrefl v)]) K z 0 (by omega) (by omega)
      obtain ⟨mass2, e2, g2⟩ := puts v (by omega) (lvl K W m r v) (fun q0 q1 q2 q3 q4 => F6_levelAlike_b2 z w q0 q1 q2 q3 q4) K z 0 mass1 (by omega) (by omega)
      obtain ⟨mass3, e3, g3⟩ := ih w (v + 1) mass2 (by omega) (by omega) (fun k v' hk hv' e => by
        rw [g2 k v' hk]
        by_cases c : v' = v
        · subst c
          rw [if_pos ⟨Nat.zero_le _, e, rfl⟩, if_pos (by omega), lvl_like e]
        · rw [if_neg (fun h => c h.2.2), h1 k v' hk hv' e]
          by_cases d : v' < v
          · rw [if_pos d, if_pos (by omega)]
          · rw [if_neg d, if_neg (by omega)]) (fun k v' hk hv' e => by rw [g2 k v' hk, if_neg (fun h => e h.2.1), h2 k v' hk hv' e])
      refine ⟨mass3, ?_, g3⟩
      refine Eq.trans e1 ?_
      unfold F6_levelAlike_b77
      exact e2.trans e3
  exact all 8 z 0 mass (by omega) (by omega) (fun k v hk hv e => by rw [if_neg (Nat.not_lt_zero v)]; exact hm k v hk hv e) (fun _ _ _ _ _ => rfl)
theorem levelOut_ok {z K : Nat} (hz : 20 ≤ z) {W : Nat → Int} {t : Int} (hV : Vd K W t) {worth : Nat → Int32} (hw : ∀ k, k < K → worth k = i3 (W k)) {m : Nat → Nat → Int} (hb : ∀ k v, k < K → v < 8 → 0 ≤ m k v ∧ m k v ≤ 100000) {mass : Nat → Nat → Int32} (hm : Ms K m mass) (A : Int) : ∃ mass', F6_levelOut z (i3 A) mass (i3 K) worth = some (i3 (A * 12), mass') ∧ Ms K (lvl K W m) mass' := by
  have hK := hV.2.1
  have loop : ∀ (rem w r : Nat) (mass1 : Nat → Nat → Int32), r + rem = K → rem < w → (∀ k v, k < K → v < 8 → ((∃ j, j < r ∧ W j = W k) → mass1 k v = i3 (lvl K W m k v)) ∧ ((∀ j, j < r → W j ≠ W k) → mass1 k v = i3 (m k v))) → ∃ mass', F6_levelOut_b13 z w (i3 r) (i3 (A * 12)) mass1 (i3 K) worth = some (i3 (A * 12), mass') ∧ Ms K (lvl K W m) mass' := by
    intro rem
    induction rem with
    | zero =>
      intro w r mass1 hr hw' h
      obtain ⟨w, rfl⟩ : ∃ w', w = w' + 1 := ⟨w - 1, by omega⟩
      refine ⟨mass1, ?_, fun k v hk hv => (h k v hk hv).1 ⟨k, by omega, rfl⟩⟩
      unfold F6_levelOut_b13
      rw [if_pos (by rw [i3_le (by omega) (by omega) (by omega) (by omega)]; omega)]
    | succ rem ih =>
      intro w r mass1 hr hw' h
      obtain ⟨w, rfl⟩ : ∃ w', w = w' + 1 := ⟨w - 1, by omega⟩
      have hrK : r < K := by omega
      have fo := isFirst_ok hz hV hrK hw
      unfold F6_levelOut_b13
      rw [if_neg (show ¬ i3 (K : Int) ≤ i3 (r : Int) by rw [i3_le (by omega) (by omega) (by omega) (by omega)]; omega)]
      unfold F6_levelOut_b41
      rw [show i3 (r : Int) + 1 = i3 ((r + 1 : Nat) : Int) from by rw [i3_l1, i3_add]; rfl]
      by_cases q : ∃ j, j < r ∧ W j = W r
      · rw [fo.2 q]
        simp only [Option.bind_some, if_true]
        refine ih w (r + 1) mass1 (by omega) (by omega) (fun k v hk hv => ⟨fun ⟨j, hj, e⟩ => ?_, fun g => (h k v hk hv).2 (fun j hj => g j (by omega))⟩)
        by_cases c : j = r
        · subst c
          obtain ⟨j', hj', e'⟩ := q
          exact (h k v hk hv).1 ⟨j', hj', e'.trans e⟩
        · exact (h k v hk hv).1 ⟨j, by omega, e⟩
      · have q' : ∀ j, j < r → W j ≠ W r := fun j hj e => q ⟨j, hj, e⟩
        rw [fo.1 q']
        simp (disch := omega) only [Option.bind_some, xg_in, i3_xnN]
        rw [if_neg n10, hw r hrK]
        obtain ⟨mass2, e2, g2, g3⟩ := levelAlike_ok hz hV hrK hw hb (mass := mass1) (fun k v hk hv e => (h k v hk hv).2 (fun j hj => by rw [e]; exact q' j hj))
        rw [e2]
        simp only [Option.bind_some]
        refine ih w (r + 1) mass2 (by omega) (by omega) (fun k v hk hv => ⟨fun ⟨j, hj, e⟩ => ?_, fun g => ?_⟩)
        · by_cases c : W k = W r
          · exact g2 k v hk hv c
          · rw [g3 k v hk hv c]
            by_cases c2 : j = r
            · subst c2; exact absurd e.symm c
            · exact (h k v hk hv).1 ⟨j, by omega, e⟩
        · have c : W k ≠ W r := fun e => g r (by omega) e.symm
          rw [g3 k v hk hv c]
          exact (h k v hk hv).2 (fun j hj => g j (by omega))
  unfold F6_levelOut
  rw [i3_l12, i3_mul]
  exact loop K z 0 mass (by omega) (by omega) (fun k v hk hv => ⟨fun ⟨j, hj, _⟩ => absurd hj (Nat.not_lt_zero j), fun _ => hm k v hk hv⟩)
