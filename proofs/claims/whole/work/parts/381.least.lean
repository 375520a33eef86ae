/-! ===== the least of those alike: the class ===== -/
/-- fields i and j of like worth change places where the first holds more -/
def swp (K : Nat) (E : Nat → Nat → Bool) (i c j : Nat) : Nat := if E i j && decide (dg K c j < dg K c i) then c + (dg K c i - dg K c j) * 8 ^ (K - 1 - j) - (dg K c i - dg K c j) * 8 ^ (K - 1 - i) else c
def lin (K : Nat) (E : Nat → Nat → Bool) (i : Nat) : Nat → Nat → Nat → Nat
  | 0, _, c => c
  | r + 1, j, c => lin K E i r (j + 1) (swp K E i c j)
def lout (K : Nat) (E : Nat → Nat → Bool) : Nat → Nat → Nat → Nat
  | 0, _, c => c
  | r + 1, i, c => lout K E r (i + 1) (lin K E i (K - (i + 1)) (i + 1) c)
def lsa (K : Nat) (E : Nat → Nat → Bool) (c : Nat) : Nat := lout K E K 0 c
theorem chk_swp : (List.range 5).all (fun K => (List.range K).all (fun j => (List.range j).all (fun i => (List.range (8 ^ K)).all (fun c => if dg K c j < dg K c i then decide (c + (dg K c i - dg K c j) * 8 ^ (K - 1 - j) - (dg K c i - dg K c j) * 8 ^ (K - 1 - i) < 8 ^ K) && decide ((dg K c i - dg K c j) * 8 ^ (K - 1 - i) ≤ c + (dg K c i - dg K c j) * 8 ^ (K - 1 - j)) else true)))) = true := by decide +kernel
