/-! ===== alike: by the least one ===== -/
def sel : Nat → Nat → Nat → Nat
  | 0, _, _ => 0
  | n + 1, x, r => match Nat.ble (x % 5) r with
    | true => sel n (x / 5) (r - x % 5) + 1
    | false => 0
def rk (P k : Nat) : Nat → Nat
  | 0 => 0
  | m + 1 => rk P k m + (if ptn P m == ptn P k then 1 else 0)
def dcd (K P c : Nat) : Nat → Nat
  | 0 => 0
  | m + 1 => dcd K P c m * 8 + sel 8 (kyN K P c m K) (rk P m m)
theorem chk_D : (List.range 4).all (fun K => (List.range 2).all (fun p1 => (List.range 3).all (fun p2 => (List.range 4).all (fun p3 => (List.range 8).all (fun f => (fil K f 0).all (fun c => Nat.beq (lsa (K + 1) (ptE (p1 * 4 + p2 * 16 + p3 * 64)) c) (dcd (K + 1) (p1 * 4 + p2 * 16 + p3 * 64) c (K + 1)))))))) = true := by decide +kernel
