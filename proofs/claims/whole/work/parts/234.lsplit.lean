theorem xLs4 : yL_split.cls ≠ "java/lang/invoke/MethodHandle" ∧ yL_split.cls ≠ "java/lang/invoke/VarHandle" ∧ (parseMethodDescriptor yL_split.desc).map (fun d => d.parameters.length) = some 4 := by decide +kernel
theorem xAt101 {hx hm : xHp} {out : Nat → Int64} (hlx : hx.length = 81) (hlm : hm.length = 20) : (hLw hx hm out)[101]? = some (.inl (1, 1, .inr (.inl out))) := by
  unfold hLw
  rw [List.getElem?_append_right (by omega), hlx, List.getElem?_append_right (by rw [List.length_map, hlm]; omega), List.length_map, hlm]
  rfl
/-- split of both: the law's own returns 0 and lays the answer, or 1 -/
def xStS (Inv Iny : xHp → xHp → Prop) (l : Launch) : Prop := ∀ (a1 a2 : Int32) (hx hm : xHp), Inv hx hm → ∃ (v : Int32) (hm' : xHp), xCt l yX10_split (some .int) j10_split [.ref 0, .int a1, .int a2] hm (some (.int v)) hm' ∧ Iny hx hm' ∧
  ((xCt l yX10_thrown (some .int) j10_thrown [.ref 0] hm' (some (.int 0)) hm' ∧ ∀ out : Nat → Int64, xCtX l yL_split (some .int) jL_split [(0, 10, 13, 13)] [.ref 0, .int a1, .int a2, .ref 81] (hx ++ [.inl (1, 1, .inr (.inl out))]) (some (.int 0)) (hx ++ [.inl (1, 1, .inr (.inl (vp_updL out 0 v.toInt64)))])) ∨
   (xCt l yX10_thrown (some .int) j10_thrown [.ref 0] hm' (some (.int 1)) hm' ∧ ∀ out : Nat → Int64, xCtX l yL_split (some .int) jL_split [(0, 10, 13, 13)] [.ref 0, .int a1, .int a2, .ref 81] (hx ++ [.inl (1, 1, .inr (.inl out))]) (some (.int 1)) (hx ++ [.inl (1, 1, .inr (.inl out))])))
theorem dL_law_439 : decode cL_law 439 = .ok (.aload_n 1, 1) := by decide +kernel
theorem dL_law_440 : decode cL_law 440 = .ok (.aload_n 0, 1) := by decide +kernel
theorem dL_law_441 : decode cL_law 441 = .ok (.iload 4, 2) := by decide +kernel
theorem dL_law_443 : decode cL_law 443 = .ok (.iconst 1, 1) := by decide +kernel
theorem dL_law_444 : decode cL_law 444 = .ok (.iadd, 1) := by decide +kernel
theorem dL_law_445 : decode cL_law 445 = .ok (.iaload, 1) := by decide +kernel
theorem dL_law_446 : decode cL_law 446 = .ok (.aload_n 0, 1) := by decide +kernel
theorem dL_law_447 : decode cL_law 447 = .ok (.iload 4, 2) := by decide +kernel
theorem dL_law_449 : decode cL_law 449 = .ok (.iconst 2, 1) := by decide +kernel
theorem dL_law_450 : decode cL_law 450 = .ok (.iadd, 1) := by decide +kernel
theorem dL_law_451 : decode cL_law 451 = .ok (.iaload, 1) := by decide +kernel
theorem dL_law_452 : decode cL_law 452 = .ok (.aload_n 3, 1) := by decide +kernel
theorem dL_law_453 : decode cL_law 453 = .ok (.invokestatic 50, 3) := by decide +kernel
theorem dL_law_456 : decode cL_law 456 = .ok (.istore 5, 2) := by decide +kernel
theorem dL_law_458 : decode cL_law 458 = .ok (.aload_n 2, 1) := by decide +kernel
theorem dL_law_459 : decode cL_law 459 = .ok (.aload_n 0, 1) := by decide +kernel
theorem dL_law_460 : decode cL_law 460 = .ok (.iload 4, 2) := by decide +kernel
theorem dL_law_462 : decode cL_law 462 = .ok (.iconst 1, 1) := by decide +kernel
theorem dL_law_463 : decode cL_law 463 = .ok (.iadd, 1) := by decide +kernel
theorem dL_law_464 : decode cL_law 464 = .ok (.iaload, 1) := by decide +kernel
theorem dL_law_465 : decode cL_law 465 = .ok (.aload_n 0, 1) := by decide +kernel
theorem dL_law_466 : decode cL_law 466 = .ok (.iload 4, 2) := by decide +kernel
theorem dL_law_468 : decode cL_law 468 = .ok (.iconst 2, 1) := by decide +kernel
theorem dL_law_469 : decode cL_law 469 = .ok (.iadd, 1) := by decide +kernel
theorem dL_law_470 : decode cL_law 470 = .ok (.iaload, 1) := by decide +kernel
theorem dL_law_471 : decode cL_law 471 = .ok (.invokevirtual 55, 3) := by decide +kernel
theorem dL_law_474 : decode cL_law 474 = .ok (.istore 6, 2) := by decide +kernel
theorem dL_law_476 : decode cL_law 476 = .ok (.aload_n 2, 1) := by decide +kernel
theorem dL_law_477 : decode cL_law 477 = .ok (.invokevirtual 56, 3) := by decide +kernel
theorem dL_law_480 : decode cL_law 480 = .ok (.iload 5, 2) := by decide +kernel
theorem dL_law_482 : decode cL_law 482 = .ok (.if_icmp .eq 5, 3) := by decide +kernel
theorem dL_law_485 : decode cL_law 485 = .ok (.iconst 0, 1) := by decide +kernel
theorem dL_law_486 : decode cL_law 486 = .ok (.ireturn, 1) := by decide +kernel
theorem dL_law_487 : decode cL_law 487 = .ok (.iload 5, 2) := by decide +kernel
theorem dL_law_489 : decode cL_law 489 = .ok (.ifCond .ne 15, 3) := by decide +kernel
theorem dL_law_492 : decode cL_law 492 = .ok (.aload_n 3, 1) := by decide +kernel
theorem dL_law_493 : decode cL_law 493 = .ok (.iconst 0, 1) := by decide +kernel
theorem dL_law_494 : decode cL_law 494 = .ok (.laload, 1) := by decide +kernel
theorem dL_law_495 : decode cL_law 495 = .ok (.iload 6, 2) := by decide +kernel
theorem dL_law_497 : decode cL_law 497 = .ok (.i2l, 1) := by decide +kernel
theorem dL_law_498 : decode cL_law 498 = .ok (.lcmp, 1) := by decide +kernel
theorem dL_law_499 : decode cL_law 499 = .ok (.ifCond .eq 5, 3) := by decide +kernel
theorem dL_law_502 : decode cL_law 502 = .ok (.iconst 0, 1) := by decide +kernel
theorem dL_law_503 : decode cL_law 503 = .ok (.ireturn, 1) := by decide +kernel
theorem dL_law_504 : decode cL_law 504 = .ok (.goto 1172, 3) := by decide +kernel
theorem Lw_split {Inv Iny : xHp → xHp → Prop} {l : Launch} {X : xX} {b L : Nat} {xs : Nat → Int32} {n k t : Nat} {hx hm : xHp} {out : Nat → Int64} (hShp : ∀ hx hm, Inv hx hm → xShp hx hm) (hShq : ∀ hx hm, Iny hx hm → xShp hx hm) (hS : xStS Inv Iny l) (hW : xLw X b L xs) (hl : X.1.2.1 = l) (hI : Inv hx hm) (ht : 6 * t + 6 ≤ L) (hL : L ≤ 3072) (hn : n + 1101 ≤ 601024) (hk : k + 6606 ≤ 7293034) (kk : xLwK Iny l X b L xs n k t) : xV jL_law X n k (hLw hx hm out) 439 (xLocs t) [] := by
  obtain ⟨hlx, hlm, ⟨fx, hx0⟩, ⟨fm, hm0⟩, hsx⟩ := hShp hx hm hI
  obtain ⟨v, hm2, hc10, hI2, hor⟩ := hS (xs (6 * t + 1)) (xs (6 * t + 2)) hx hm hI
  obtain ⟨-, hlm2, -, ⟨fm2, hm02⟩, -⟩ := hShq hx hm2 hI2
  rcases hor with ⟨hct, hcx⟩ | ⟨hct, hcx⟩
  · refine xV_aload_n 440 rfl dL_law_439 rfl 2 rfl ?_
    refine xV_aload_n 441 rfl dL_law_440 rfl 1 rfl ?_
    refine xV_iload 443 rfl dL_law_441 0 rfl ?_
    refine xV_iconst (v := 1) 444 rfl dL_law_443 (by decide) ?_
    refine xV_iadd 445 rfl dL_law_444 ?_
    refine xV_sld 446 rfl hW dL_law_445 (xArgI 1 (by decide) ht hL) (xArgJ 1 (by decide) ht hL) ?_
    refine xV_aload_n 447 rfl dL_law_446 rfl 1 rfl ?_
    refine xV_iload 449 rfl dL_law_447 0 rfl ?_
    refine xV_iconst (v := 2) 450 rfl dL_law_449 (by decide) ?_
    refine xV_iadd 451 rfl dL_law_450 ?_
    refine xV_sld 452 rfl hW dL_law_451 (xArgI 2 (by decide) ht hL) (xArgJ 2 (by decide) ht hL) ?_
    refine xV_aload_n 453 rfl dL_law_452 rfl 4 rfl ?_
    refine xV_lsplit (C := RL) (mid := hm.map (xe (fun j => 81 + j))) (c0 := .inl (1, 1, .inr (.inl out))) (c1 := .inl (1, 1, .inr (.inl (vp_updL out 0 v.toInt64)))) (rest := []) 81 20 hlx (by rw [List.length_map]; exact hlm) 456 rfl hW dL_law_453 hl (hcx out) (List.mem_of_getElem? (i := 566) (by decide +kernel)) (List.mem_of_getElem? (i := 565) (by decide +kernel)) xLs4 (List.mem_of_getElem? (i := 564) (by decide +kernel)) (List.mem_of_getElem? (i := 563) (by decide +kernel)) rfl (Nat.le_of_ble_eq_true rfl) (Nat.le_of_ble_eq_true rfl) (Nat.le_of_ble_eq_true rfl) ⟨by show n + 1 ≤ 601024; omega, by show k + 6 ≤ 7293034; omega⟩ hsx (fun _ => rfl) (fun _ => rfl) ?_
    show xV jL_law X (n + 1) (k + 6) (hLw hx hm (vp_updL out 0 v.toInt64)) 456 [(4, .int (Int32.ofNat (6 * t))), (0, .ref 2000), (1, .ref 0), (2, .ref 81), (3, .ref 101)] [.int 0]
    refine xV_istore (L' := [(5, .int 0), (4, .int (Int32.ofNat (6 * t))), (0, .ref 2000), (1, .ref 0), (2, .ref 81), (3, .ref 101)]) 458 rfl dL_law_456 (xlt rfl) rfl ?_
    refine xV_aload_n 459 rfl dL_law_458 rfl 4 rfl ?_
    refine xV_aload_n 460 rfl dL_law_459 rfl 2 rfl ?_
    refine xV_iload 462 rfl dL_law_460 1 rfl ?_
    refine xV_iconst (v := 1) 463 rfl dL_law_462 (by decide) ?_
    refine xV_iadd 464 rfl dL_law_463 ?_
    refine xV_sld 465 rfl hW dL_law_464 (xArgI 1 (by decide) ht hL) (xArgJ 1 (by decide) ht hL) ?_
    refine xV_aload_n 466 rfl dL_law_465 rfl 2 rfl ?_
    refine xV_iload 468 rfl dL_law_466 1 rfl ?_
    refine xV_iconst (v := 2) 469 rfl dL_law_468 (by decide) ?_
    refine xV_iadd 470 rfl dL_law_469 ?_
    refine xV_sld 471 rfl hW dL_law_470 (xArgI 2 (by decide) ht hL) (xArgJ 2 (by decide) ht hL) ?_
    refine xV_mid (J := jL_law) (X := X) (pc := 471) (hx := hx) (hm := hm) (hm' := hm2) (t := [.inl (1, 1, .inr (.inl (vp_updL out 0 v.toInt64)))]) (rest := []) (av2 := [.int (xs (6 * t + 1)), .int (xs (6 * t + 2))]) 81 hlx 474 rfl dL_law_471 hl hc10 m10_split v10_split (List.mem_of_getElem? (i := 579) (by decide +kernel)) (hlm2.trans hlm.symm) rfl rfl rfl hm0 rfl rfl (Nat.le_of_ble_eq_true rfl) (Nat.le_of_ble_eq_true rfl) (Nat.le_of_ble_eq_true rfl) ⟨by show n + 1 + 0 ≤ 601024; omega, by show k + 6 + 0 ≤ 7293034; omega⟩ ?_
    refine xV_eq (n' := n + 1) (k' := k + 6) (Nat.add_zero _) (Nat.add_zero _) ?_
    show xV jL_law X (n + 1) (k + 6) (hLw hx hm2 (vp_updL out 0 v.toInt64)) 474 [(5, .int 0), (4, .int (Int32.ofNat (6 * t))), (0, .ref 2000), (1, .ref 0), (2, .ref 81), (3, .ref 101)] [.int v]
    refine xV_istore (L' := [(6, .int v), (5, .int 0), (4, .int (Int32.ofNat (6 * t))), (0, .ref 2000), (1, .ref 0), (2, .ref 81), (3, .ref 101)]) 476 rfl dL_law_474 (xlt rfl) rfl ?_
    refine xV_aload_n 477 rfl dL_law_476 rfl 5 rfl ?_
    refine xV_mid (J := jL_law) (X := X) (pc := 477) (hx := hx) (hm := hm2) (hm' := hm2) (t := [.inl (1, 1, .inr (.inl (vp_updL out 0 v.toInt64)))]) (rest := []) (av2 := []) 81 hlx 480 rfl dL_law_477 hl hct m10_thrown v10_thrown (List.mem_of_getElem? (i := 587) (by decide +kernel)) rfl rfl rfl rfl hm02 rfl rfl (Nat.le_of_ble_eq_true rfl) (Nat.le_of_ble_eq_true rfl) (Nat.le_of_ble_eq_true rfl) ⟨by show n + 1 + 0 ≤ 601024; omega, by show k + 6 + 0 ≤ 7293034; omega⟩ ?_
    refine xV_eq (n' := n + 1) (k' := k + 6) (Nat.add_zero _) (Nat.add_zero _) ?_
    show xV jL_law X (n + 1) (k + 6) (hLw hx hm2 (vp_updL out 0 v.toInt64)) 480 [(6, .int v), (5, .int 0), (4, .int (Int32.ofNat (6 * t))), (0, .ref 2000), (1, .ref 0), (2, .ref 81), (3, .ref 101)] [.int 0]
    refine xV_iload 482 rfl dL_law_480 1 rfl ?_
    refine xV_icmp_eq (tgt := 487) 485 rfl dL_law_482 (by decide) (fun _ => ?_) (fun hq => absurd rfl hq)
    refine xV_iload 489 rfl dL_law_487 1 rfl ?_
    refine xV_if_ne (tgt := 504) 492 rfl dL_law_489 (by decide) (fun hq => absurd rfl hq) (fun _ => ?_)
    refine xV_aload_n 493 rfl dL_law_492 rfl 6 rfl ?_
    refine xV_iconst (v := 0) 494 rfl dL_law_493 (by decide) ?_
    refine xV_laload (f := (vp_updL out 0 v.toInt64)) (z := 1) (j := 0) 495 rfl dL_law_494 (xAt101 hlx hlm2) (xin_ok (by decide)) (by decide) ?_
    refine xV_iload 497 rfl dL_law_495 0 rfl ?_
    refine xV_i2l 498 rfl dL_law_497 ?_
    refine xV_lcmp 499 rfl dL_law_498 ?_
    rw [show vp_updL out 0 v.toInt64 0 = v.toInt64 from if_pos rfl, xLcmp]
    refine xV_if_eq (tgt := 504) 502 rfl dL_law_499 (by decide) (fun _ => ?_) (fun hq => absurd rfl hq)
    refine xV_goto (tgt := 1676) dL_law_504 (by decide) ?_
    refine xV_sub [2, 3, 4, 5, 6] rfl ?_
    exact kk X (n + 1) (k + 6) hx hm2 (vp_updL out 0 v.toInt64) hW hl (by omega) (by omega) hI2
  · refine xV_aload_n 440 rfl dL_law_439 rfl 2 rfl ?_
    refine xV_aload_n 441 rfl dL_law_440 rfl 1 rfl ?_
    refine xV_iload 443 rfl dL_law_441 0 rfl ?_
    refine xV_iconst (v := 1) 444 rfl dL_law_443 (by decide) ?_
    refine xV_iadd 445 rfl dL_law_444 ?_
    refine xV_sld 446 rfl hW dL_law_445 (xArgI 1 (by decide) ht hL) (xArgJ 1 (by decide) ht hL) ?_
    refine xV_aload_n 447 rfl dL_law_446 rfl 1 rfl ?_
    refine xV_iload 449 rfl dL_law_447 0 rfl ?_
    refine xV_iconst (v := 2) 450 rfl dL_law_449 (by decide) ?_
    refine xV_iadd 451 rfl dL_law_450 ?_
    refine xV_sld 452 rfl hW dL_law_451 (xArgI 2 (by decide) ht hL) (xArgJ 2 (by decide) ht hL) ?_
    refine xV_aload_n 453 rfl dL_law_452 rfl 4 rfl ?_
    refine xV_lsplit (C := RL) (mid := hm.map (xe (fun j => 81 + j))) (c0 := .inl (1, 1, .inr (.inl out))) (c1 := .inl (1, 1, .inr (.inl out))) (rest := []) 81 20 hlx (by rw [List.length_map]; exact hlm) 456 rfl hW dL_law_453 hl (hcx out) (List.mem_of_getElem? (i := 566) (by decide +kernel)) (List.mem_of_getElem? (i := 565) (by decide +kernel)) xLs4 (List.mem_of_getElem? (i := 564) (by decide +kernel)) (List.mem_of_getElem? (i := 563) (by decide +kernel)) rfl (Nat.le_of_ble_eq_true rfl) (Nat.le_of_ble_eq_true rfl) (Nat.le_of_ble_eq_true rfl) ⟨by show n + 1 ≤ 601024; omega, by show k + 6 ≤ 7293034; omega⟩ hsx (fun _ => rfl) (fun _ => rfl) ?_
    show xV jL_law X (n + 1) (k + 6) (hLw hx hm out) 456 [(4, .int (Int32.ofNat (6 * t))), (0, .ref 2000), (1, .ref 0), (2, .ref 81), (3, .ref 101)] [.int 1]
    refine xV_istore (L' := [(5, .int 1), (4, .int (Int32.ofNat (6 * t))), (0, .ref 2000), (1, .ref 0), (2, .ref 81), (3, .ref 101)]) 458 rfl dL_law_456 (xlt rfl) rfl ?_
    refine xV_aload_n 459 rfl dL_law_458 rfl 4 rfl ?_
    refine xV_aload_n 460 rfl dL_law_459 rfl 2 rfl ?_
    refine xV_iload 462 rfl dL_law_460 1 rfl ?_
    refine xV_iconst (v := 1) 463 rfl dL_law_462 (by decide) ?_
    refine xV_iadd 464 rfl dL_law_463 ?_
    refine xV_sld 465 rfl hW dL_law_464 (xArgI 1 (by decide) ht hL) (xArgJ 1 (by decide) ht hL) ?_
    refine xV_aload_n 466 rfl dL_law_465 rfl 2 rfl ?_
    refine xV_iload 468 rfl dL_law_466 1 rfl ?_
    refine xV_iconst (v := 2) 469 rfl dL_law_468 (by decide) ?_
    refine xV_iadd 470 rfl dL_law_469 ?_
    refine xV_sld 471 rfl hW dL_law_470 (xArgI 2 (by decide) ht hL) (xArgJ 2 (by decide) ht hL) ?_
    refine xV_mid (J := jL_law) (X := X) (pc := 471) (hx := hx) (hm := hm) (hm' := hm2) (t := [.inl (1, 1, .inr (.inl out))]) (rest := []) (av2 := [.int (xs (6 * t + 1)), .int (xs (6 * t + 2))]) 81 hlx 474 rfl dL_law_471 hl hc10 m10_split v10_split (List.mem_of_getElem? (i := 579) (by decide +kernel)) (hlm2.trans hlm.symm) rfl rfl rfl hm0 rfl rfl (Nat.le_of_ble_eq_true rfl) (Nat.le_of_ble_eq_true rfl) (Nat.le_of_ble_eq_true rfl) ⟨by show n + 1 + 0 ≤ 601024; omega, by show k + 6 + 0 ≤ 7293034; omega⟩ ?_
    refine xV_eq (n' := n + 1) (k' := k + 6) (Nat.add_zero _) (Nat.add_zero _) ?_
    show xV jL_law X (n + 1) (k + 6) (hLw hx hm2 out) 474 [(5, .int 1), (4, .int (Int32.ofNat (6 * t))), (0, .ref 2000), (1, .ref 0), (2, .ref 81), (3, .ref 101)] [.int v]
    refine xV_istore (L' := [(6, .int v), (5, .int 1), (4, .int (Int32.ofNat (6 * t))), (0, .ref 2000), (1, .ref 0), (2, .ref 81), (3, .ref 101)]) 476 rfl dL_law_474 (xlt rfl) rfl ?_
    refine xV_aload_n 477 rfl dL_law_476 rfl 5 rfl ?_
    refine xV_mid (J := jL_law) (X := X) (pc := 477) (hx := hx) (hm := hm2) (hm' := hm2) (t := [.inl (1, 1, .inr (.inl out))]) (rest := []) (av2 := []) 81 hlx 480 rfl dL_law_477 hl hct m10_thrown v10_thrown (List.mem_of_getElem? (i := 587) (by decide +kernel)) rfl rfl rfl rfl hm02 rfl rfl (Nat.le_of_ble_eq_true rfl) (Nat.le_of_ble_eq_true rfl) (Nat.le_of_ble_eq_true rfl) ⟨by show n + 1 + 0 ≤ 601024; omega, by show k + 6 + 0 ≤ 7293034; omega⟩ ?_
    refine xV_eq (n' := n + 1) (k' := k + 6) (Nat.add_zero _) (Nat.add_zero _) ?_
    show xV jL_law X (n + 1) (k + 6) (hLw hx hm2 out) 480 [(6, .int v), (5, .int 1), (4, .int (Int32.ofNat (6 * t))), (0, .ref 2000), (1, .ref 0), (2, .ref 81), (3, .ref 101)] [.int 1]
    refine xV_iload 482 rfl dL_law_480 1 rfl ?_
    refine xV_icmp_eq (tgt := 487) 485 rfl dL_law_482 (by decide) (fun _ => ?_) (fun hq => absurd rfl hq)
    refine xV_iload 489 rfl dL_law_487 1 rfl ?_
    refine xV_if_ne (tgt := 504) 492 rfl dL_law_489 (by decide) (fun _ => ?_) (fun hq => absurd hq (by decide))
    refine xV_goto (tgt := 1676) dL_law_504 (by decide) ?_
    refine xV_sub [2, 3, 4, 5, 6] rfl ?_
    exact kk X (n + 1) (k + 6) hx hm2 out hW hl (by omega) (by omega) hI2
