/-! ===== what a plan lays on fields ===== -/
def Ms (K : Nat) (m : Nat → Nat → Int) (mass : Nat → Nat → Int32) : Prop := ∀ k v, k < K → v < 8 → mass k v = i3 (m k v)
theorem F6_clear_ok {z : Nat} (hz : 20 ≤ z) (all : Int32) (mass : Nat → Nat → Int32) : ∃ mass', F6_clear z all mass = some (0, mass') ∧ Ms 4 (fun _ _ => 0) mass' := by
  have inner : ∀ (k : Nat), k < 4 → ∀ (rem w v : Nat) (all : Int32) (mass : Nat → Nat → Int32) (k7 : Int32 → Int32 → (Nat → Nat → Int32) → Option (Int32 × (Nat → Nat → Int32))), v + rem = 8 → rem < w → (∀ a b, (a < k ∨ (a = k ∧ b < v)) → b < 8 → mass a b = 0) → ∃ mass', F6_clear_b14 z w (i3 k) (i3 v) all mass k7 = k7 (i3 (k + 1 : Nat)) all mass' ∧ (∀ a b, a < k + 1 → b < 8 → mass' a b = 0) := by
    intro k hk rem
    induction rem with
    | zero =>
      intro w v all mass k7 hv hw h
      obtain ⟨w, rfl⟩ : ∃ w', w = w' + 1 := ⟨w - 1, by omega⟩
      refine ⟨mass, ?_, fun a b ha hb => h a b (by omega) hb⟩
      unfold F6_clear_b14
      rw [if_pos (by rw [i3_l7, i3_lt (by omega) (by omega) (by omega) (by omega)]; omega)]
      unfold F6_clear_b35
      rw [show i3 (k : Int) + 1 = i3 ((k + 1 : Nat) : Int) from by rw [i3_l1, i3_add]; rfl]
    | succ rem ih =>
      intro w v all mass k7 hv hw h
      obtain ⟨w, rfl⟩ : ∃ w', w = w' + 1 := ⟨w - 1, by omega⟩
      unfold F6_clear_b14
      rw [if_neg (by rw [i3_l7, i3_lt (by omega) (by omega) (by omega) (by omega)]; omega)]
      simp (disch := omega) only [xg_in, i3_xnN]
      rw [show i3 (v : Int) + 1 = i3 ((v + 1 : Nat) : Int) from by rw [i3_l1, i3_add]; rfl]
      refine ih w (v + 1) all _ k7 (by omega) (by omega) (fun a b hab hb => ?_)
      by_cases e : a = k
      · subst e
        rw [va_up_self]
        by_cases e2 : b = v
        · subst e2; exact upd_same _ _ _
        · rw [upd_diff _ _ e2]; exact h a b (by omega) hb
      · rw [va_up_ne _ _ e]; exact h a b (by omega) hb
  have outer : ∀ (rem w k : Nat) (all : Int32) (mass : Nat → Nat → Int32), k + rem = 4 → rem < w → (∀ a b, a < k → b < 8 → mass a b = 0) → ∃ mass', F6_clear_b7 z w (i3 k) all mass = some (all, mass') ∧ Ms 4 (fun _ _ => 0) mass' := by
    intro rem
    induction rem with
    | zero =>
      intro w k all mass hk hw h
      obtain ⟨w, rfl⟩ : ∃ w', w = w' + 1 := ⟨w - 1, by omega⟩
      refine ⟨mass, ?_, fun a b ha hb => h a b (by omega) hb⟩
      unfold F6_clear_b7
      rw [if_pos (by rw [i3_l4, i3_le (by omega) (by omega) (by omega) (by omega)]; omega)]
    | succ rem ih =>
      intro w k all mass hk hw h
      obtain ⟨w, rfl⟩ : ∃ w', w = w' + 1 := ⟨w - 1, by omega⟩
      unfold F6_clear_b7
      rw [if_neg (by rw [i3_l4, i3_le (by omega) (by omega) (by omega) (by omega)]; omega)]
      obtain ⟨m1, e1, h1⟩ := inner k (by omega) 8 z 0 all mass (fun q0 q1 q2 => F6_clear_b7 z w q0 q1 q2) (by omega) (by omega) (fun a b hab hb => h a b (by omega) hb)
      obtain ⟨m2, e2, h2⟩ := ih w (k + 1) all m1 (by omega) (by omega) (fun a b ha hb => h1 a b ha hb)
      exact ⟨m2, e1.trans e2, h2⟩
  exact outer 4 z 0 0 mass (by omega) (by omega) (fun a b ha _ => absurd ha (Nat.not_lt_zero a))
theorem F6_lay_ok {z K c : Nat} (hz : 20 ≤ z) (hK : K ≤ 4) (hc : c < 4096) (w : Int) (A : Int) {m : Nat → Nat → Int} {mass : Nat → Nat → Int32} (hm : Ms K m mass) : ∃ mass', F6_lay z (i3 c) (i3 w) (i3 A) mass (i3 K) = some (i3 (A + w), mass') ∧ Ms K (fun k v => m k v + (if dg K c k = v then w else 0)) mass' := by
  have loop : ∀ (rem x k : Nat) (mass : Nat → Nat → Int32), k + rem = K → rem < x → Ms K (fun a b => m a b + (if a < k ∧ dg K c a = b then w else 0)) mass → ∃ mass', F6_lay_b13 z x (i3 c) (i3 w) (i3 k) (i3 (A + w)) mass (i3 K) = some (i3 (A + w), mass') ∧ Ms K (fun k v => m k v + (if dg K c k = v then w else 0)) mass' := by
    intro rem
    induction rem with
    | zero =>
      intro x k mass hk hx h
      obtain ⟨x, rfl⟩ : ∃ w', x = w' + 1 := ⟨x - 1, by omega⟩
      refine ⟨mass, ?_, fun a b ha hb => ?_⟩
      · unfold F6_lay_b13
        rw [if_pos (by rw [i3_le (by omega) (by omega) (by omega) (by omega)]; omega)]
      · rw [h a b ha hb]
        have : a < k := by omega
        simp only [this, true_and]
    | succ rem ih =>
      intro x k mass hk hx h
      obtain ⟨x, rfl⟩ : ∃ w', x = w' + 1 := ⟨x - 1, by omega⟩
      have d8 := dg_lt K c k
      unfold F6_lay_b13
      rw [if_neg (by rw [i3_le (by omega) (by omega) (by omega) (by omega)]; omega), F4_digit_ok hK hc (by omega)]
      simp (disch := omega) only [xg_in, i3_xnN, Option.bind_some]
      rw [h k _ (by omega) d8]
      simp only [Nat.lt_irrefl, false_and, if_false, Int.add_zero]
      rw [i3_add, show i3 (k : Int) + 1 = i3 ((k + 1 : Nat) : Int) from by rw [i3_l1, i3_add]; rfl]
      refine ih x (k + 1) _ (by omega) (by omega) (fun a b ha hb => ?_)
      by_cases e : a = k
      · subst e
        rw [va_up_self]
        have q : a < a + 1 := by omega
        simp only [q, true_and]
        by_cases e2 : b = dg K c a
        · subst e2; rw [upd_same, if_pos rfl]
        · rw [upd_diff _ _ e2, if_neg (fun q => e2 q.symm), h a b ha hb]
          simp only [Nat.lt_irrefl, false_and, if_false]
      · rw [va_up_ne _ _ e, h a b ha hb]
        have q : (a < k + 1) = (a < k) := by apply propext; omega
        simp only [q]
  unfold F6_lay
  rw [i3_add]
  refine loop K z 0 mass (by omega) (by omega) (fun a b ha hb => ?_)
  rw [hm a b ha hb]
  simp only [Nat.not_lt_zero, false_and, if_false, Int.add_zero]
def wsd (t : Int) (s v d : Nat) : Int := if s = 0 then wn t v d else - wn t d v
def sgd (K : Nat) (W : Nat → Int) (t : Int) (s a b : Nat) : Int := if s = 0 then gn K W t a b else - gn K W t b a
theorem sgd_eq (K : Nat) (W : Nat → Int) (t : Int) (s a b : Nat) : sgd K W t s a b = sm K (fun k => W k * wsd t s (dg K a k) (dg K b k)) := by
  unfold sgd wsd gn
  by_cases q : s = 0
  · simp only [if_pos q]
  · simp only [if_neg q]
    rw [← sm_neg]
    exact sm_congr (fun k _ => by rw [Int.mul_neg])
theorem F6_gainFor_ok {z K c s : Nat} (hz : 20 ≤ z) {W : Nat → Int} {t : Int} (hV : Vd K W t) (hc : c < 4096) (hs : s < 2) {worth : Nat → Int32} (hw : ∀ k, k < K → worth k = i3 (W k)) {m : Nat → Nat → Int} {mass : Nat → Nat → Int32} (hm : Ms K m mass) : F6_gainFor z (i3 s) (i3 c) mass (i3 K) (i3 t) worth = some (i3 (sm K (fun k => W k * sm 8 (fun v => m k v * wsd t s v (dg K c k))))) := by
  have h5 := hV.2.2.2.2.1
  have h6 := hV.2.2.2.2.2
  have hK := hV.2.1
  have inner : ∀ (k : Nat), k < K → ∀ (x4 : Int32) (k6 : Int32 → Int32 → Int32 → Int32 → (Nat → Nat → Int32) → Int32 → Int32 → (Nat → Int32) → Option Int32) (rem w v : Nat), v + rem = 8 → rem < w → F6_gainFor_b30 z w (i3 s) (i3 c) x4 (i3 k) (i3 (dg K c k : Nat)) (i3 (sm v (fun v => m k v * wsd t s v (dg K c k)))) (i3 v) mass (i3 K) (i3 t) worth k6 = k6 (i3 s) (i3 c) (x4 + i3 (W k * sm 8 (fun v => m k v * wsd t s v (dg K c k)))) (i3 (k + 1 : Nat)) mass (i3 K) (i3 t) worth := by
    intro k hk x4 k6 rem
    induction rem with
    | zero =>
      intro w v hv hw'
      obtain ⟨w, rfl⟩ : ∃ w', w = w' + 1 := ⟨w - 1, by omega⟩
      obtain rfl : v = 8 := by omega
      unfold F6_gainFor_b30
      rw [if_pos (by rw [i3_l7, i3_lt (by omega) (by omega) (by omega) (by omega)]; omega)]
      unfold F6_gainFor_b87
      simp (disch := omega) only [xg_in, i3_xnN]
      rw [hw k hk, i3_mul, show i3 (k : Int) + 1 = i3 ((k + 1 : Nat) : Int) from by rw [i3_l1, i3_add]; rfl]
    | succ rem ih =>
      intro w v hv hw'
      obtain ⟨w, rfl⟩ : ∃ w', w = w' + 1 := ⟨w - 1, by omega⟩
      have d8 := dg_lt K c k
      unfold F6_gainFor_b30
      rw [if_neg (by rw [i3_l7, i3_lt (by omega) (by omega) (by omega) (by omega)]; omega), F4_winner_ok (show v < 8 by omega) d8 h5 h6, F4_winner_ok d8 (show v < 8 by omega) h5 h6]
      simp only [Option.bind_some]
      have fin : ∀ (s0 : Int32), s0 = i3 (wsd t s v (dg K c k)) → F6_gainFor_b61 z (i3 s) (i3 c) x4 (i3 k) (i3 (dg K c k : Nat)) (i3 (sm v (fun v => m k v * wsd t s v (dg K c k)))) (i3 v) s0 mass (i3 K) (i3 t) worth k6 (fun q0 q1 q2 q3 q4 q5 q6 q7 q8 q9 q10 => F6_gainFor_b30 z w q0 q1 q2 q3 q4 q5 q6 q7 q8 q9 q10 k6) = k6 (i3 s) (i3 c) (x4 + i3 (W k * sm 8 (fun v => m k v * wsd t s v (dg K c k)))) (i3 (k + 1 : Nat)) mass (i3 K) (i3 t) worth := by
        intro s0 hs0
        unfold F6_gainFor_b61
        simp (disch := omega) only [xg_in, i3_xnN]
        rw [hm k v hk (by omega), hs0, i3_mul, i3_add, show i3 (v : Int) + 1 = i3 ((v + 1 : Nat) : Int) from by rw [i3_l1, i3_add]; rfl]
        exact ih w (v + 1) (by omega) (by omega)
      rcases two_cases hs with rfl | rfl
      · rw [if_pos (show i3 ((0 : Nat) : Int) = 0 from rfl)]
        exact fin _ rfl
      · rw [if_neg (show ¬ i3 ((1 : Nat) : Int) = 0 from n10)]
        exact fin _ (by rw [i3_neg]; rfl)
  have outer : ∀ (rem w k : Nat), k + rem = K → rem < w → F6_gainFor_b6 z w (i3 s) (i3 c) (i3 (sm k (fun k => W k * sm 8 (fun v => m k v * wsd t s v (dg K c k))))) (i3 k) mass (i3 K) (i3 t) worth = some (i3 (sm K (fun k => W k * sm 8 (fun v => m k v * wsd t s v (dg K c k))))) := by
    intro rem
    induction rem with
    | zero =>
      intro w k hk hw'
      obtain ⟨w, rfl⟩ : ∃ w', w = w' + 1 := ⟨w - 1, by omega⟩
      obtain rfl : k = K := by omega
      unfold F6_gainFor_b6
      rw [if_pos (by rw [i3_le (by omega) (by omega) (by omega) (by omega)]; omega)]
    | succ rem ih =>
      intro w k hk hw'
      obtain ⟨w, rfl⟩ : ∃ w', w = w' + 1 := ⟨w - 1, by omega⟩
      unfold F6_gainFor_b6
      rw [if_neg (by rw [i3_le (by omega) (by omega) (by omega) (by omega)]; omega), F4_digit_ok hK hc (by omega)]
      simp only [Option.bind_some]
      refine Eq.trans (inner k (by omega) _ _ 8 z 0 (by omega) (by omega)) ?_
      rw [i3_add]
      exact ih w (k + 1) (by omega) (by omega)
  exact outer K z 0 (by omega) (by omega)
/-- entries laid one after the other -/
def mss (K : Nat) (c : Nat → Nat) (w : Nat → Int) (n : Nat) : Nat → Nat → Int := fun k v => sm n (fun e => if dg K (c e) k = v then w e else 0)
theorem mss_gain (K : Nat) (W : Nat → Int) (t : Int) (s : Nat) (c : Nat → Nat) (w : Nat → Int) (n b : Nat) : sm K (fun k => W k * sm 8 (fun v => mss K c w n k v * wsd t s v (dg K b k))) = sm n (fun e => w e * sgd K W t s (c e) b) := by
  have h1 : ∀ k, k < K → W k * sm 8 (fun v => mss K c w n k v * wsd t s v (dg K b k)) = sm n (fun e => w e * (W k * wsd t s (dg K (c e) k) (dg K b k))) := by
    intro k _
    rw [← sm_mul]
    have h2 : ∀ v, v < 8 → W k * (mss K c w n k v * wsd t s v (dg K b k)) = sm n (fun e => if dg K (c e) k = v then w e * (W k * wsd t s (dg K (c e) k) (dg K b k)) else 0) := by
      intro v _
      unfold mss
      rw [show W k * (sm n (fun e => if dg K (c e) k = v then w e else 0) * wsd t s v (dg K b k)) = (W k * wsd t s v (dg K b k)) * sm n (fun e => if dg K (c e) k = v then w e else 0) from by rw [Int.mul_comm (sm n _), Int.mul_assoc], ← sm_mul]
      refine sm_congr (fun e _ => ?_)
      by_cases q : dg K (c e) k = v
      · rw [if_pos q, if_pos q, q, Int.mul_comm]
      · rw [if_neg q, if_neg q, Int.mul_zero]
    rw [sm_congr h2, sm_comm]
    refine sm_congr (fun e _ => ?_)
    rw [sm_one (r := dg K (c e) k) (dg_lt _ _ _) (fun v _ hv => if_neg (fun q => hv q.symm)), if_pos rfl]
  rw [sm_congr h1, sm_comm]
  refine sm_congr (fun e _ => ?_)
  rw [sgd_eq, sm_mul]
theorem sgd_gsd {K : Nat} {W : Nat → Int} {t : Int} {fo : Nat → Nat} {s : Nat} (hs : s < 2) (i j : Nat) : sgd K W t s (cd K (fo s) i) (cd K (fo (1 - s)) j) = gsd K W t fo s i j := by
  rcases two_cases hs with rfl | rfl <;> rfl
