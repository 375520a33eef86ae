/-! ===== splits that are alike: the reference ===== -/
theorem sm_bdB {B : Int} {f : Nat → Int} {n : Nat} (h : ∀ k, k < n → 0 ≤ f k ∧ f k ≤ B) : 0 ≤ sm n f ∧ sm n f ≤ B * (n : Int) := by
  induction n with
  | zero => exact ⟨Int.le_refl _, by show (0 : Int) ≤ B * 0; omega⟩
  | succ n ih =>
    have h1 := ih (fun k hk => h k (by omega))
    have h2 := h n (by omega)
    show 0 ≤ sm n f + f n ∧ sm n f + f n ≤ B * ((n + 1 : Nat) : Int)
    have : B * ((n + 1 : Nat) : Int) = B * (n : Int) + B := by rw [show ((n + 1 : Nat) : Int) = (n : Int) + 1 from rfl, Int.mul_add, Int.mul_one]
    omega
theorem Vd_w {K : Nat} {W : Nat → Int} {t : Int} (hV : Vd K W t) {k : Nat} (hk : k < K) : 1 ≤ W k ∧ W k ≤ 8 := by
  have h1 := hV.2.2.1 k hk
  have h2 := sm_ge_one (f := W) hk (fun j hj => by have := hV.2.2.1 j hj; omega)
  have h3 := hV.2.2.2.1
  omega
/-- what lies on the fields worth what f is -/
def ky (K : Nat) (W : Nat → Int) (c f : Nat) : Int := sm K (fun k => if W k = W f then ((5 ^ dg K c k : Nat) : Int) else 0)
theorem five_bd {d : Nat} (h : d < 8) : 0 ≤ ((5 ^ d : Nat) : Int) ∧ ((5 ^ d : Nat) : Int) ≤ 78125 := by
  have : 5 ^ d ≤ 78125 := Nat.pow_le_pow_right (n := 5) (i := d) (j := 7) (by decide) (by omega)
  exact ⟨Int.natCast_nonneg _, Int.ofNat_le.mpr this⟩
theorem ky_bd {K : Nat} (hK : K ≤ 4) (W : Nat → Int) (c f : Nat) : 0 ≤ ky K W c f ∧ ky K W c f ≤ 400000 := by
  have h := sm_bdB (B := 78125) (n := K) (f := fun k => if W k = W f then ((5 ^ dg K c k : Nat) : Int) else 0) (fun k _ => by
    have := five_bd (dg_lt K c k)
    by_cases q : W k = W f
    · rw [if_pos q]; exact this
    · rw [if_neg q]; omega)
  unfold ky
  omega
theorem codeOn_ok {z K : Nat} (hz : 20 ≤ z) {W : Nat → Int} {t : Int} {fo : Nat → Nat} {told many eights gains : Nat → Int32} (hM : SM K W t fo told many eights gains) {fives : Nat → Int32} (hF : FVr fives) {s i f : Nat} (hs : s < 2) (hi : i < ns K (fo s)) (hf : f < K) : F10_codeOn z (i3 s) (i3 i) (i3 (W f)) told eights fives = some (i3 (ky K W (cd K (fo s) i) f)) := by
  have hK := hM.1.2.1
  have wf := Vd_w hM.1 hf
  have loop : ∀ (rem w k : Nat), k + rem = K → rem < w → F10_codeOn_b6 z w (i3 s) (i3 i) (i3 (W f)) (i3 (sm k (fun k => if W k = W f then ((5 ^ dg K (cd K (fo s) i) k : Nat) : Int) else 0))) (i3 k) told eights fives = some (i3 (ky K W (cd K (fo s) i) f)) := by
    intro rem
    induction rem with
    | zero =>
      intro w k hk hw
      obtain ⟨w, rfl⟩ : ∃ w', w = w' + 1 := ⟨w - 1, by omega⟩
      obtain rfl : k = K := by omega
      unfold F10_codeOn_b6
      rw [hM.2.2.1, if_pos (by rw [i3_le (by omega) (by omega) (by omega) (by omega)]; omega)]
      rfl
    | succ rem ih =>
      intro w k hk hw
      obtain ⟨w, rfl⟩ : ∃ w', w = w' + 1 := ⟨w - 1, by omega⟩
      have hk' : k < K := by omega
      have wk := Vd_w hM.1 hk'
      have d8 := dg_lt K (cd K (fo s) i) k
      have ih' : F10_codeOn_b6 z w (i3 s) (i3 i) (i3 (W f)) (i3 (sm k (fun k => if W k = W f then ((5 ^ dg K (cd K (fo s) i) k : Nat) : Int) else 0) + (if W k = W f then ((5 ^ dg K (cd K (fo s) i) k : Nat) : Int) else 0))) (i3 (k + 1 : Nat)) told eights fives = _ := ih w (k + 1) (by omega) (by omega)
      unfold F10_codeOn_b6
      rw [hM.2.2.1, if_neg (by rw [i3_le (by omega) (by omega) (by omega) (by omega)]; omega), F10_worth_ok hM hk', F10_on_ok hM hs hi hk']
      simp (disch := omega) only [xg_in, i3_xnN, Option.bind_some]
      unfold F10_codeOn_b46
      rw [show i3 (k : Int) + 1 = i3 ((k + 1 : Nat) : Int) from by rw [i3_l1, i3_add]; rfl]
      by_cases q : W k = W f
      · rw [if_pos (by rw [q]), hF _ d8, i3_add]
        rw [if_pos q] at ih'
        exact ih'
      · rw [if_neg (by rw [i3_eq (by omega) (by omega) (by omega) (by omega)]; exact q), i3_l0, i3_add]
        rw [if_neg q] at ih'
        exact ih'
  exact loop K z 0 (by omega) (by omega)
/-- alike on the first m fields' worths -/
def lkb (K : Nat) (W : Nat → Int) (a b : Nat) : Nat → Bool
  | 0 => true
  | m + 1 => lkb K W a b m && decide (ky K W a m = ky K W b m)
theorem lkb_iff (K : Nat) (W : Nat → Int) (a b : Nat) : ∀ m, lkb K W a b m = true ↔ ∀ f, f < m → ky K W a f = ky K W b f := by
  intro m
  induction m with
  | zero => exact ⟨fun _ f hf => absurd hf (Nat.not_lt_zero f), fun _ => rfl⟩
  | succ m ih =>
    show (lkb K W a b m && decide (ky K W a m = ky K W b m)) = true ↔ _
    rw [Bool.and_eq_true, decide_eq_true_iff, ih]
    constructor
    · intro ⟨h1, h2⟩ f hf
      by_cases q : f = m
      · rw [q]; exact h2
      · exact h1 f (by omega)
    · intro h
      exact ⟨fun f hf => h f (by omega), h m (by omega)⟩
theorem areLike_ok {z K : Nat} (hz : 20 ≤ z) {W : Nat → Int} {t : Int} {fo : Nat → Nat} {told many eights gains : Nat → Int32} (hM : SM K W t fo told many eights gains) {fives : Nat → Int32} (hF : FVr fives) {s i j : Nat} (hs : s < 2) (hi : i < ns K (fo s)) (hj : j < ns K (fo s)) : F10_areLike z (i3 s) (i3 i) (i3 j) told eights fives = some (if lkb K W (cd K (fo s) i) (cd K (fo s) j) K then 1 else 0) := by
  have hK := hM.1.2.1
  have loop : ∀ (rem w k : Nat), k + rem = K → rem < w → F10_areLike_b6 z w (i3 s) (i3 i) (i3 j) (if lkb K W (cd K (fo s) i) (cd K (fo s) j) k then 1 else 0) (i3 k) told eights fives = some (if lkb K W (cd K (fo s) i) (cd K (fo s) j) K then 1 else 0) := by
    intro rem
    induction rem with
    | zero =>
      intro w k hk hw
      obtain ⟨w, rfl⟩ : ∃ w', w = w' + 1 := ⟨w - 1, by omega⟩
      obtain rfl : k = K := by omega
      unfold F10_areLike_b6
      rw [hM.2.2.1, if_pos (show i3 (k : Int) ≤ i3 (k : Int) by rw [i3_le (by omega) (by omega) (by omega) (by omega)]; omega)]
      cases lkb k W (cd k (fo s) i) (cd k (fo s) j) k <;> rfl
    | succ rem ih =>
      intro w k hk hw
      obtain ⟨w, rfl⟩ : ∃ w', w = w' + 1 := ⟨w - 1, by omega⟩
      have hk' : k < K := by omega
      have ih' := ih w (k + 1) (by omega) (by omega)
      have el : lkb K W (cd K (fo s) i) (cd K (fo s) j) (k + 1) = (lkb K W (cd K (fo s) i) (cd K (fo s) j) k && decide (ky K W (cd K (fo s) i) k = ky K W (cd K (fo s) j) k)) := rfl
      have b1 := ky_bd hK W (cd K (fo s) i) k
      have b2 := ky_bd hK W (cd K (fo s) j) k
      unfold F10_areLike_b6
      rw [hM.2.2.1, if_neg (show ¬ i3 (K : Int) ≤ i3 (k : Int) by rw [i3_le (by omega) (by omega) (by omega) (by omega)]; omega), F10_worth_ok hM hk']
      simp only [Option.bind_some]
      rw [codeOn_ok hz hM hF hs hi hk', codeOn_ok hz hM hF hs hj hk']
      simp only [Option.bind_some]
      unfold F10_areLike_b54
      rw [show i3 (k : Int) + 1 = i3 ((k + 1 : Nat) : Int) from by rw [i3_l1, i3_add]; rfl]
      rw [el] at ih'
      cases hl : lkb K W (cd K (fo s) i) (cd K (fo s) j) k
      · rw [hl] at ih'
        rw [if_pos (show (if false = true then (1 : Int32) else 0) = 0 from rfl)]
        exact ih'
      · rw [hl] at ih'
        rw [if_neg (show ¬ (if true = true then (1 : Int32) else 0) = 0 from n10)]
        by_cases q : ky K W (cd K (fo s) i) k = ky K W (cd K (fo s) j) k
        · rw [if_pos (by rw [q])]
          rw [decide_eq_true q] at ih'
          exact ih'
        · rw [if_neg (show ¬ i3 (ky K W (cd K (fo s) i) k) = i3 (ky K W (cd K (fo s) j) k) by rw [i3_eq (by omega) (by omega) (by omega) (by omega)]; exact q)]
          rw [decide_eq_false q] at ih'
          exact ih'
  exact loop K z 0 (by omega) (by omega)
