/-! ===== ints of 32 and 64 bits as whole numbers ===== -/
def i3 (a : Int) : Int32 := Int32.ofInt a
def i6 (a : Int) : Int64 := Int64.ofInt a
theorem i3_add (a b : Int) : i3 a + i3 b = i3 (a + b) := (Int32.ofInt_add a b).symm
theorem i3_sub (a b : Int) : i3 a - i3 b = i3 (a - b) := (Int32.ofInt_sub a b).symm
theorem i3_mul (a b : Int) : i3 a * i3 b = i3 (a * b) := (Int32.ofInt_mul a b).symm
theorem i3_neg (a : Int) : - i3 a = i3 (- a) := (Int32.ofInt_neg a).symm
theorem i6_add (a b : Int) : i6 a + i6 b = i6 (a + b) := (Int64.ofInt_add a b).symm
theorem i6_sub (a b : Int) : i6 a - i6 b = i6 (a - b) := (Int64.ofInt_sub a b).symm
theorem i6_mul (a b : Int) : i6 a * i6 b = i6 (a * b) := (Int64.ofInt_mul a b).symm
theorem i6_neg (a : Int) : - i6 a = i6 (- a) := (Int64.ofInt_neg a).symm
theorem i3_l0 : (0 : Int32) = i3 0 := rfl
theorem i3_l1 : (1 : Int32) = i3 1 := rfl
theorem i3_l2 : (2 : Int32) = i3 2 := rfl
theorem i3_l3 : (3 : Int32) = i3 3 := rfl
theorem i3_l4 : (4 : Int32) = i3 4 := rfl
theorem i3_l5 : (5 : Int32) = i3 5 := rfl
theorem i3_l6 : (6 : Int32) = i3 6 := rfl
theorem i3_l7 : (7 : Int32) = i3 7 := rfl
theorem i3_l8 : (8 : Int32) = i3 8 := rfl
theorem i3_l9 : (9 : Int32) = i3 9 := rfl
theorem i3_l10 : (10 : Int32) = i3 10 := rfl
theorem i3_l12 : (12 : Int32) = i3 12 := rfl
theorem i3_l16 : (16 : Int32) = i3 16 := rfl
theorem i3_l20 : (20 : Int32) = i3 20 := rfl
theorem i3_l23 : (23 : Int32) = i3 23 := rfl
theorem i3_l24 : (24 : Int32) = i3 24 := rfl
theorem i3_l40 : (40 : Int32) = i3 40 := rfl
theorem i3_l48 : (48 : Int32) = i3 48 := rfl
theorem i3_l56 : (56 : Int32) = i3 56 := rfl
theorem i3_l64 : (64 : Int32) = i3 64 := rfl
theorem i3_l99 : (99 : Int32) = i3 99 := rfl
theorem i3_l120 : (120 : Int32) = i3 120 := rfl
theorem i3_l128 : (128 : Int32) = i3 128 := rfl
theorem i3_l200 : (200 : Int32) = i3 200 := rfl
theorem i3_l256 : (256 : Int32) = i3 256 := rfl
theorem i3_l300 : (300 : Int32) = i3 300 := rfl
theorem i3_l1000 : (1000 : Int32) = i3 1000 := rfl
theorem i3_l1000000 : (1000000 : Int32) = i3 1000000 := rfl
theorem i3_m1 : (-1 : Int32) = i3 (-1) := rfl
theorem i3_m2 : (-2 : Int32) = i3 (-2) := rfl
theorem i3_m8 : (-8 : Int32) = i3 (-8) := rfl
theorem i3_m100 : (-100 : Int32) = i3 (-100) := rfl
theorem i3_m10000 : (-10000 : Int32) = i3 (-10000) := rfl
theorem i3_int {a : Int} (h1 : -2147483648 ≤ a) (h2 : a < 2147483648) : (i3 a).toInt = a := Int32.toInt_ofInt_of_le (by omega) (by omega)
theorem i6_int {a : Int} (h1 : -9223372036854775808 ≤ a) (h2 : a < 9223372036854775808) : (i6 a).toInt = a := Int64.toInt_ofInt_of_le (by omega) (by omega)
theorem i3_of (x : Int32) : i3 x.toInt = x := Int32.ofInt_toInt x
theorem i6_of (x : Int64) : i6 x.toInt = x := Int64.ofInt_toInt x
theorem i3_ex (x : Int32) : ∃ a : Int, x = i3 a ∧ -2147483648 ≤ a ∧ a < 2147483648 := ⟨x.toInt, (i3_of x).symm, by have := x.le_toInt; omega, by have := x.toInt_lt; omega⟩
theorem i3_lt {a b : Int} (h1 : -2147483648 ≤ a) (h2 : a < 2147483648) (h3 : -2147483648 ≤ b) (h4 : b < 2147483648) : (i3 a < i3 b) ↔ a < b := by
  rw [Int32.lt_iff_toInt_lt, i3_int h1 h2, i3_int h3 h4]
theorem i3_le {a b : Int} (h1 : -2147483648 ≤ a) (h2 : a < 2147483648) (h3 : -2147483648 ≤ b) (h4 : b < 2147483648) : (i3 a ≤ i3 b) ↔ a ≤ b := by
  rw [Int32.le_iff_toInt_le, i3_int h1 h2, i3_int h3 h4]
theorem i3_eq {a b : Int} (h1 : -2147483648 ≤ a) (h2 : a < 2147483648) (h3 : -2147483648 ≤ b) (h4 : b < 2147483648) : (i3 a = i3 b) ↔ a = b := by
  rw [← Int32.toInt_inj, i3_int h1 h2, i3_int h3 h4]
theorem i6_lt {a b : Int} (h1 : -9223372036854775808 ≤ a) (h2 : a < 9223372036854775808) (h3 : -9223372036854775808 ≤ b) (h4 : b < 9223372036854775808) : (i6 a < i6 b) ↔ a < b := by
  rw [Int64.lt_iff_toInt_lt, i6_int h1 h2, i6_int h3 h4]
theorem i6_le {a b : Int} (h1 : -9223372036854775808 ≤ a) (h2 : a < 9223372036854775808) (h3 : -9223372036854775808 ≤ b) (h4 : b < 9223372036854775808) : (i6 a ≤ i6 b) ↔ a ≤ b := by
  rw [Int64.le_iff_toInt_le, i6_int h1 h2, i6_int h3 h4]
theorem i6_eq {a b : Int} (h1 : -9223372036854775808 ≤ a) (h2 : a < 9223372036854775808) (h3 : -9223372036854775808 ≤ b) (h4 : b < 9223372036854775808) : (i6 a = i6 b) ↔ a = b := by
  rw [← Int64.toInt_inj, i6_int h1 h2, i6_int h3 h4]
theorem i3_xn {a : Int} (h1 : 0 ≤ a) (h2 : a < 2147483648) : xn (i3 a) = a.toNat := Int32.toNatClampNeg_ofInt_of_le (by omega) (by omega)
theorem i3_xnN {k : Nat} (h2 : k < 2147483648) : xn (i3 (k : Int)) = k := by
  rw [i3_xn (by omega) (by omega)]; omega
theorem i3_xin {a : Int} {z : Nat} (h1 : 0 ≤ a) (h2 : a < z) (h3 : z < 2147483648) : xin (i3 a) z = true := by
  unfold xin
  have e1 : ¬ i3 a < 0 := by
    rw [i3_l0, i3_lt (by omega) (by omega) (by omega) (by omega)]; omega
  rw [i3_xn h1 (by omega)]
  simp only [e1, decide_false, Bool.false_or, Bool.not_eq_true', decide_eq_false_iff_not]
  omega
theorem xg_t {α : Type} (k : Option α) : xg true k = k := rfl
theorem xg_in {α : Type} {a : Int} {z : Nat} (k : Option α) (h1 : 0 ≤ a) (h2 : a < z) (h3 : z < 2147483648) : xg (xin (i3 a) z) k = k := by
  rw [i3_xin h1 h2 h3]; rfl
theorem xg_bo {α : Type} {a : Int} (k : Option α) (h : a = 0 ∨ a = 1) : xg (xbo (i3 a)) k = k := by
  rcases h with h | h <;> subst h <;> rfl
theorem upd_same (f : Nat → Int32) (k : Nat) (x : Int32) : upd f k x k = x := if_pos rfl
theorem upd_diff (f : Nat → Int32) {k j : Nat} (x : Int32) (h : j ≠ k) : upd f k x j = f j := if_neg h
theorem i3_toI6 {a : Int} (h1 : -2147483648 ≤ a) (h2 : a < 2147483648) : (i3 a).toInt64 = i6 a := by
  apply Int64.toInt.inj
  rw [Int32.toInt_toInt64, i3_int h1 h2, i6_int (by omega) (by omega)]
theorem i6_toI3 (a : Int) : (i6 a).toInt32 = i3 a := by
  unfold i6 i3
  simp
/-- digits by eights -/
theorem chk_shr : (List.range 64).all (fun a => (List.range 64).all (fun b => (List.range 4).all (fun j => decide ((i3 (64 * a + b : Nat) >>> (i3 (3 * j : Nat) &&& 31)) &&& 7 = i3 ((64 * a + b) / 8 ^ j % 8 : Nat))))) = true := by decide +kernel
theorem i3_shr {c j : Nat} (hc : c < 4096) (hj : j < 4) : (i3 (c : Int) >>> (i3 ((3 * j : Nat) : Int) &&& 31)) &&& 7 = i3 ((c / 8 ^ j % 8 : Nat) : Int) := by
  have h := List.all_eq_true.mp chk_shr (c / 64) (List.mem_range.mpr (by omega))
  have h2 := List.all_eq_true.mp h (c % 64) (List.mem_range.mpr (by omega))
  have h3 := List.all_eq_true.mp h2 j (List.mem_range.mpr hj)
  have e : 64 * (c / 64) + c % 64 = c := by omega
  rw [e] at h3
  exact of_decide_eq_true h3
theorem chk_shl : (List.range 9).all (fun a => (List.range 4).all (fun j => decide (i3 (a : Nat) <<< (i3 (3 * j : Nat) &&& 31) = i3 (a * 8 ^ j : Nat)))) = true := by decide +kernel
theorem i3_shl {c j : Nat} (hc : c < 9) (hj : j < 4) : i3 (c : Int) <<< (i3 ((3 * j : Nat) : Int) &&& 31) = i3 ((c * 8 ^ j : Nat) : Int) := by
  have h := List.all_eq_true.mp chk_shl c (List.mem_range.mpr (by omega))
  have h3 := List.all_eq_true.mp h j (List.mem_range.mpr hj)
  exact of_decide_eq_true h3
