/-! ===== splits, digits, gains ===== -/
def dg (K c k : Nat) : Nat := c / 8 ^ (K - 1 - k) % 8
def wn (t a b : Int) : Int := if a = b then (if t = 1 then 1 else if t = 2 then -1 else 0) else if a ≤ b then -1 else 1
def gn (K : Nat) (W : Nat → Int) (t : Int) (a b : Nat) : Int := sm K (fun k => W k * wn t (dg K a k) (dg K b k))
theorem dg_lt (K c k : Nat) : dg K c k < 8 := Nat.mod_lt _ (by decide)
theorem F4_digit_ok {K c k : Nat} (hK : K ≤ 4) (hc : c < 4096) (hk : k < K) : F4_digit (i3 c) (i3 k) (i3 K) = some (i3 (dg K c k : Nat)) := by
  unfold F4_digit dg
  have e : (3 : Int32) * ((i3 K - (1 : Int32)) - i3 k) = i3 ((3 * (K - 1 - k) : Nat) : Int) := by
    rw [i3_l3, i3_l1, i3_sub, i3_sub, i3_mul]; congr 1; omega
  rw [e, i3_shr hc (by omega)]
theorem F4_winner_ok {a b : Nat} {t : Int} (ha : a < 8) (hb : b < 8) (ht : 0 ≤ t) (ht2 : t ≤ 2) : F4_winner (i3 a) (i3 b) (i3 t) = some (i3 (wn t a b)) := by
  unfold F4_winner wn
  simp (disch := omega) only [i3_l0, i3_l1, i3_l2, i3_neg, i3_eq, i3_le]
  split <;> (try split) <;> (try split) <;> rfl
theorem wn_bd (t a b : Int) : -1 ≤ wn t a b ∧ wn t a b ≤ 1 := by
  unfold wn
  split <;> (try split) <;> (try split) <;> decide
/-- a setting that is lawful -/
def Vd (K : Nat) (W : Nat → Int) (t : Int) : Prop := 1 ≤ K ∧ K ≤ 4 ∧ (∀ k, k < K → 1 ≤ W k) ∧ sm K W ≤ 8 ∧ 0 ≤ t ∧ t ≤ 2
theorem gn_bd {K : Nat} {W : Nat → Int} {t : Int} (h : Vd K W t) (a b : Nat) : -8 ≤ gn K W t a b ∧ gn K W t a b ≤ 8 := by
  obtain ⟨h1, h2, h3, h4, h5, h6⟩ := h
  have := sm_abs_le (n := K) (f := fun k => W k * wn t (dg K a k) (dg K b k)) (g := W) (fun k hk => by
    have := abs_mul (a := W k) (b := 1) (x := W k) (y := wn t (dg K a k) (dg K b k)) (by have := h3 k hk; omega) (Int.le_refl _) (wn_bd _ _ _).1 (wn_bd _ _ _).2
    rw [Int.mul_one] at this
    exact this)
  unfold gn
  omega
theorem sm_W_bd {K : Nat} {W : Nat → Int} {t : Int} (h : Vd K W t) : ∀ k, k < K → 1 ≤ W k ∧ W k ≤ 8 := fun k hk => by
  obtain ⟨h1, h2, h3, h4, h5, h6⟩ := h
  have := sm_ge_one (n := K) (r := k) (f := W) hk (fun j hj => by have := h3 j hj; omega)
  have := h3 k hk
  omega
theorem gn_part_bd {K : Nat} {W : Nat → Int} {t : Int} (h : Vd K W t) (a b : Nat) {k : Nat} (hk : k ≤ K) : -64 ≤ sm k (fun k => W k * wn t (dg K a k) (dg K b k)) ∧ sm k (fun k => W k * wn t (dg K a k) (dg K b k)) ≤ 64 := by
  have h8 := sm_W_bd h
  have := sm_abs_le (n := k) (f := fun k => W k * wn t (dg K a k) (dg K b k)) (g := fun _ => 8) (fun j hj => by
    have h9 := h8 j (by omega)
    have := abs_mul (a := 8) (b := 1) (x := W j) (y := wn t (dg K a j) (dg K b j)) (by omega) (by omega) (wn_bd _ _ _).1 (wn_bd _ _ _).2
    rw [Int.mul_one] at this
    exact this)
  rw [sm_const] at this
  have := h.2.1
  omega
theorem F4_gainFor_b56_ok {z K : Nat} {W : Nat → Int} {t : Int} {x1 : Int32} {a b : Nat} {worth : Nat → Int32} {codes : Nat → Nat → Int32} (hV : Vd K W t) (ha : a < 4096) (hb : b < 4096) (hw : ∀ k, k < K → worth k = i3 (W k)) : ∀ (rem w k : Nat), k + rem = K → rem < w → F4_gainFor_b56 z w x1 (i3 a) (i3 b) (i3 (sm k (fun k => W k * wn t (dg K a k) (dg K b k)))) (i3 k) (i3 K) (i3 t) worth codes = some (if x1 = 0 then i3 (gn K W t a b) else i3 (- gn K W t a b)) := by
  have h5 := hV.2.2.2.2.1
  have h6 := hV.2.2.2.2.2
  have hK := hV.2.1
  intro rem
  induction rem with
  | zero =>
    intro w k hk hw'
    obtain ⟨w, rfl⟩ : ∃ w', w = w' + 1 := ⟨w - 1, by omega⟩
    have e : k = K := by omega
    subst e
    unfold F4_gainFor_b56 F4_gainFor_b104
    simp (disch := omega) only [i3_le, if_pos, i3_neg]
    split <;> rfl
  | succ rem ih =>
    intro w k hk hw'
    obtain ⟨w, rfl⟩ : ∃ w', w = w' + 1 := ⟨w - 1, by omega⟩
    unfold F4_gainFor_b56
    rw [if_neg (by rw [i3_le (by omega) (by omega) (by omega) (by omega)]; omega), xg_in _ (by omega) (by omega) (by omega), F4_digit_ok hK ha (by omega), F4_digit_ok hK hb (by omega)]
    simp only [Option.bind_some]
    rw [F4_winner_ok (dg_lt _ _ _) (dg_lt _ _ _) h5 h6]
    simp only [Option.bind_some]
    rw [i3_xnN (by omega), hw k (by omega), i3_mul, i3_add, i3_l1, i3_add]
    exact ih w (k + 1) (by omega) (by omega)
