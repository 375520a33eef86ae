/-! ===== likeness: checks by the kernel ===== -/
/-- a pattern of like worths: four digits by fours -/
def ptn (P k : Nat) : Nat := P / 4 ^ k % 4
def ptE (P : Nat) : Nat → Nat → Bool := fun i j => ptn P i == ptn P j
def kyN (K P c f : Nat) : Nat → Nat
  | 0 => 0
  | m + 1 => kyN K P c f m + (if ptn P m == ptn P f then 5 ^ dg K c m else 0)
def keyN (K P c : Nat) : Nat → Nat
  | 0 => 0
  | m + 1 => keyN K P c m * 1000000 + kyN K P c m K
def chkA (K P c : Nat) : Bool := Nat.ble (lsa K (ptE P) c) c && Nat.beq (dsum K (lsa K (ptE P) c)) (dsum K c) && Nat.beq (keyN K P (lsa K (ptE P) c) K) (keyN K P c K) && Nat.beq (lsa K (ptE P) (lsa K (ptE P) c)) (lsa K (ptE P) c)
theorem chk_A0 : (List.range 2).all (fun p1 => (List.range 3).all (fun p2 => (List.range 4).all (fun p3 => (List.range 8).all (fun f => (fil 0 f 0).all (fun c => chkA 1 (p1 * 4 + p2 * 16 + p3 * 64) c))))) = true := by decide +kernel
theorem chk_A1 : (List.range 2).all (fun p1 => (List.range 3).all (fun p2 => (List.range 4).all (fun p3 => (List.range 8).all (fun f => (fil 1 f 0).all (fun c => chkA 2 (p1 * 4 + p2 * 16 + p3 * 64) c))))) = true := by decide +kernel
theorem chk_A2 : (List.range 2).all (fun p1 => (List.range 3).all (fun p2 => (List.range 4).all (fun p3 => (List.range 8).all (fun f => (fil 2 f 0).all (fun c => chkA 3 (p1 * 4 + p2 * 16 + p3 * 64) c))))) = true := by decide +kernel
theorem chk_A3 : (List.range 2).all (fun p1 => (List.range 3).all (fun p2 => (List.range 4).all (fun p3 => (List.range 8).all (fun f => (fil 3 f 0).all (fun c => chkA 4 (p1 * 4 + p2 * 16 + p3 * 64) c))))) = true := by decide +kernel
