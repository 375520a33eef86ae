/-! ===== likeness: no two least ones have one key ===== -/
def ndp : List Nat → Bool
  | [] => true
  | x :: l => l.all (fun y => !(Nat.beq x y)) && ndp l
theorem chk_B0 : (List.range 2).all (fun p1 => (List.range 3).all (fun p2 => (List.range 4).all (fun p3 => (List.range 8).all (fun f => ndp (((fil 0 f 0).filter (fun c => Nat.beq (lsa 1 (ptE (p1 * 4 + p2 * 16 + p3 * 64)) c) c)).map (fun c => keyN 1 (p1 * 4 + p2 * 16 + p3 * 64) c 1)))))) = true := by decide +kernel
theorem chk_B1 : (List.range 2).all (fun p1 => (List.range 3).all (fun p2 => (List.range 4).all (fun p3 => (List.range 8).all (fun f => ndp (((fil 1 f 0).filter (fun c => Nat.beq (lsa 2 (ptE (p1 * 4 + p2 * 16 + p3 * 64)) c) c)).map (fun c => keyN 2 (p1 * 4 + p2 * 16 + p3 * 64) c 2)))))) = true := by decide +kernel
theorem chk_B2 : (List.range 2).all (fun p1 => (List.range 3).all (fun p2 => (List.range 4).all (fun p3 => (List.range 8).all (fun f => ndp (((fil 2 f 0).filter (fun c => Nat.beq (lsa 3 (ptE (p1 * 4 + p2 * 16 + p3 * 64)) c) c)).map (fun c => keyN 3 (p1 * 4 + p2 * 16 + p3 * 64) c 3)))))) = true := by decide +kernel
