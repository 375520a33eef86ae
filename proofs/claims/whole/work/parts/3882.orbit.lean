/-! ===== even plans: how a shape lies on like fields ===== -/
def frN (x : Nat) (k : Nat → Bool) : Bool := match x with
  | 0 => k 0
  | m + 1 => k (m + 1)
theorem frN_eq (x : Nat) (k : Nat → Bool) : frN x k = k x := by cases x <;> rfl
def frc : List Nat → (List Nat → Bool) → Bool
  | [], k => k []
  | x :: l, k => frN x (fun y => frc l (fun r => k (y :: r)))
theorem frc_eq : ∀ (l : List Nat) (k : List Nat → Bool), frc l k = k l
  | [], _ => rfl
  | x :: l, k => by
    show frN x (fun y => frc l (fun r => k (y :: r))) = k (x :: l)
    rw [frN_eq]
    exact frc_eq l (fun r => k (x :: r))
def cnL (x : Nat) : List Nat → Nat
  | [] => 0
  | y :: l => cnL x l + (match Nat.beq x y with | true => 1 | false => 0)
def chkH (K P f : Nat) : Bool := frc ((fil K f 0).map (lsa (K + 1) (ptE P))) (fun L => L.all (fun x => Nat.beq (24 % cnL x L) 0))
theorem chk_H0 : (List.range 2).all (fun p1 => (List.range 3).all (fun p2 => (List.range 4).all (fun p3 => (List.range 8).all (fun f => chkH 0 (p1 * 4 + p2 * 16 + p3 * 64) f)))) = true := by decide +kernel
theorem chk_H1 : (List.range 2).all (fun p1 => (List.range 3).all (fun p2 => (List.range 4).all (fun p3 => (List.range 8).all (fun f => chkH 1 (p1 * 4 + p2 * 16 + p3 * 64) f)))) = true := by decide +kernel
theorem chk_H2 : (List.range 2).all (fun p1 => (List.range 3).all (fun p2 => (List.range 4).all (fun p3 => (List.range 8).all (fun f => chkH 2 (p1 * 4 + p2 * 16 + p3 * 64) f)))) = true := by decide +kernel
theorem chk_H3 : (List.range 2).all (fun p1 => (List.range 3).all (fun p2 => (List.range 4).all (fun p3 => (List.range 8).all (fun f => chkH 3 (p1 * 4 + p2 * 16 + p3 * 64) f)))) = true := by decide +kernel
