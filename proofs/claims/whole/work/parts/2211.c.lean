theorem dX8_init_0 : decode cX8_init 0 = .ok (.aload_n 0, 1) := by decide +kernel
theorem dX8_init_1 : decode cX8_init 1 = .ok (.invokespecial 3, 3) := by decide +kernel
theorem dX8_init_4 : decode cX8_init 4 = .ok (.aload_n 0, 1) := by decide +kernel
theorem dX8_init_5 : decode cX8_init 5 = .ok (.new 9, 3) := by decide +kernel
theorem dX8_init_8 : decode cX8_init 8 = .ok (.dup, 1) := by decide +kernel
theorem dX8_init_9 : decode cX8_init 9 = .ok (.invokespecial 11, 3) := by decide +kernel
theorem dX8_init_12 : decode cX8_init 12 = .ok (.putfield 12, 3) := by decide +kernel
theorem dX8_init_15 : decode cX8_init 15 = .ok (.aload_n 0, 1) := by decide +kernel
theorem dX8_init_16 : decode cX8_init 16 = .ok (.new 18, 3) := by decide +kernel
theorem dX8_init_19 : decode cX8_init 19 = .ok (.dup, 1) := by decide +kernel
theorem dX8_init_20 : decode cX8_init 20 = .ok (.invokespecial 20, 3) := by decide +kernel
theorem dX8_init_23 : decode cX8_init 23 = .ok (.putfield 21, 3) := by decide +kernel
theorem dX8_init_26 : decode cX8_init 26 = .ok (.return_, 1) := by decide +kernel
abbrev j8_init : xJ := (cX8_init, 1, RX8, 4, 23, 644)
set_option maxRecDepth 100000 in
set_option maxHeartbeats 4000000 in
theorem C8_init (l : Launch) {z : Nat} {v0 v1 : (Nat → Int32) × (Nat → Nat → Int32)} (hf0 : F4_listSplits z 0 3 (upd (upd (fun _ => 0) 0 5) 1 4) (fun _ => 0) (fun _ _ => 0) = some v0) (hf1 : F4_listSplits z 1 3 (upd (upd (fun _ => 0) 0 5) 1 4) v0.1 v0.2 = some v1) : xCtN l yX8_init j8_init (.inr (8, [.null, .null, .int 0])) (hLr 0 (fun _ => 0) 0 0 0 0 0 3 0 (upd (upd (upd (fun _ => 0) 0 1) 1 1) 2 1) (upd (upd (fun _ => 0) 0 5) 1 4) v1.1 v1.2 (fun _ _ => 0) (fun _ => 0) (fun _ _ => 0) (fun _ _ => 0) (fun _ _ => 0) (fun _ => 0) (fun _ => 0) (fun _ => 0)) := xCtN_of (by decide) rfl rfl (by decide) (fun X hl hX => by
  refine xV_aload_n 1 rfl dX8_init_0 rfl 0 rfl ?_
  refine xV_objInit 4 rfl dX8_init_1 (List.mem_of_getElem? (i := 78) (by decide +kernel)) (Nat.le_of_ble_eq_true rfl) (Nat.le_of_ble_eq_true rfl) ?_
  refine xV_aload_n 5 rfl dX8_init_4 rfl 0 rfl ?_
  refine xV_newN (ci := 7) (fs := [.null, .int 0, .int 0, .int 0, .int 0, .int 0]) 8 rfl dX8_init_5 rfl ⟨List.mem_of_getElem? (i := 79) (by decide +kernel), List.mem_of_getElem? (i := 80) (by decide +kernel), List.mem_of_getElem? (i := 81) (by decide +kernel)⟩ (fun _ => rfl) (by decide) (Nat.le_of_ble_eq_true rfl) (Nat.le_of_ble_eq_true rfl) (xScH_of (Nat.le_refl _) rfl) (xScL_of rfl) (xScS_of rfl) (fun r1 hr1 => ?_)
  have hX := xIsN_setr hr1 (Nat.le_of_ble_eq_true rfl) hX
  have hl : (xsetr X r1).1.2.1 = l := hl
  generalize xsetr X r1 = X1 at hX hl ⊢
  show xV j8_init X1 1 6 [.inr (8, [.null, .null, .int 0]), .inr (7, [.null, .int 0, .int 0, .int 0, .int 0, .int 0])] 8 [(0, .ref 0)] [.ref 1, .ref 0]
  refine xV_dup 9 rfl dX8_init_8 rfl ?_
  refine xV_ctorN (h0 := [.inr (8, [.null, .null, .int 0])]) (rest := [.ref 1, .ref 0]) 12 rfl dX8_init_9 hl (C7_init l) m7_init rfl (List.mem_of_getElem? (i := 85) (by decide +kernel)) (by decide) (fun _ => rfl) (Nat.le_of_ble_eq_true rfl) (Nat.le_of_ble_eq_true rfl) (Nat.le_of_ble_eq_true rfl) ⟨(Nat.le_of_ble_eq_true rfl), (Nat.le_of_ble_eq_true rfl)⟩ (xScH_of (Nat.le_of_ble_eq_true rfl) rfl) (xScL_of rfl) (xScS_of rfl) (fun r2 hr2 => ?_)
  have hX := xIsN_setr hr2 (Nat.le_of_ble_eq_true rfl) hX
  have hl : (xsetr X1 r2).1.2.1 = l := hl
  generalize xsetr X1 r2 = X2 at hX hl ⊢
  show xV j8_init X2 2 306 [.inr (8, [.null, .null, .int 0]), .inr (7, [.ref 2, .int 0, .int 0, .int 0, .int 0, .int 0]), .inl (0, 300, .inl (fun _ => 0))] 12 [(0, .ref 0)] [.ref 1, .ref 0]
  refine xV_putF (h' := [.inr (8, [.ref 1, .null, .int 0]), .inr (7, [.ref 2, .int 0, .int 0, .int 0, .int 0, .int 0]), .inl (0, 300, .inl (fun _ => 0))]) 15 rfl hX dX8_init_12 (⟨_, rfl, by decide, List.mem_of_getElem? (i := 82) (by decide +kernel)⟩ : xFl RX8 12 8 0) rfl (fun q e => by cases e; exact ⟨rfl, rfl⟩) (fun _ => rfl) (fun _ => rfl) (Nat.le_of_ble_eq_true rfl) rfl ?_
  refine xV_aload_n 16 rfl dX8_init_15 rfl 0 rfl ?_
  refine xV_newN (ci := 4) (fs := [.int 0, .int 0, .null, .null, .null, .null, .null, .null]) 19 rfl dX8_init_16 rfl ⟨List.mem_of_getElem? (i := 83) (by decide +kernel), List.mem_of_getElem? (i := 14) (by decide +kernel), List.mem_of_getElem? (i := 15) (by decide +kernel)⟩ (fun _ => rfl) (by decide) (Nat.le_of_ble_eq_true rfl) (Nat.le_of_ble_eq_true rfl) (xScH_of (Nat.le_refl _) rfl) (xScL_of rfl) (xScS_of rfl) (fun r3 hr3 => ?_)
  have hX := xIsN_setr hr3 (Nat.le_of_ble_eq_true rfl) hX
  have hl : (xsetr X2 r3).1.2.1 = l := hl
  generalize xsetr X2 r3 = X3 at hX hl ⊢
  show xV j8_init X3 3 314 [.inr (8, [.ref 1, .null, .int 0]), .inr (7, [.ref 2, .int 0, .int 0, .int 0, .int 0, .int 0]), .inl (0, 300, .inl (fun _ => 0)), .inr (4, [.int 0, .int 0, .null, .null, .null, .null, .null, .null])] 19 [(0, .ref 0)] [.ref 3, .ref 0]
  refine xV_dup 20 rfl dX8_init_19 rfl ?_
  refine xV_ctor (h0 := [.inr (8, [.ref 1, .null, .int 0]), .inr (7, [.ref 2, .int 0, .int 0, .int 0, .int 0, .int 0]), .inl (0, 300, .inl (fun _ => 0))]) (rest := [.ref 3, .ref 0]) 23 rfl dX8_init_20 hl (C4_init l hf0 hf1) m4_init rfl (List.mem_of_getElem? (i := 40) (by decide +kernel)) (List.mem_of_getElem? (i := 89) (by decide +kernel)) (fun _ => rfl) (Nat.le_of_ble_eq_true rfl) (Nat.le_of_ble_eq_true rfl) (Nat.le_of_ble_eq_true rfl) ⟨(Nat.le_of_ble_eq_true rfl), (Nat.le_of_ble_eq_true rfl)⟩ (xScH_of (Nat.le_of_ble_eq_true rfl) rfl) (xScL_of rfl) (xScS_of rfl) (fun r4 hr4 => ?_)
  have hX := xIsN_setr hr4 (Nat.le_of_ble_eq_true rfl) hX
  have hl : (xsetr X3 r4).1.2.1 = l := hl
  generalize xsetr X3 r4 = X4 at hX hl ⊢
  show xV j8_init X4 23 644 [.inr (8, [.ref 1, .null, .int 0]), .inr (7, [.ref 2, .int 0, .int 0, .int 0, .int 0, .int 0]), .inl (0, 300, .inl (fun _ => 0)), .inr (4, [.int 3, .int 0, .ref 4, .ref 5, .ref 6, .ref 7, .ref 10, .ref 15]), .inl (0, 4, .inl (upd (upd (upd (fun _ => 0) 0 1) 1 1) 2 1)), .inl (0, 2, .inl (upd (upd (fun _ => 0) 0 5) 1 4)), .inl (0, 2, .inl v1.1), .inl (7, 2, .inr (.inr [8, 9])), .inl (0, 120, .inl (v1.2 0)), .inl (0, 120, .inl (v1.2 1)), .inl (4, 2, .inr (.inr [11, 13])), .inr (0, [.ref 12, .int 0]), .inl (0, 6, .inl (fun _ => 0)), .inr (0, [.ref 14, .int 0]), .inl (0, 6, .inl (fun _ => 0)), .inl (5, 2, .inr (.inr [16, 20])), .inr (3, [.ref 17, .ref 18, .ref 19, .int 0, .int 0, .int 0]), .inl (0, 8, .inl (fun _ => 0)), .inl (0, 8, .inl (fun _ => 0)), .inl (0, 8, .inl (fun _ => 0)), .inr (3, [.ref 21, .ref 22, .ref 23, .int 0, .int 0, .int 0]), .inl (0, 8, .inl (fun _ => 0)), .inl (0, 8, .inl (fun _ => 0)), .inl (0, 8, .inl (fun _ => 0))] 23 [(0, .ref 0)] [.ref 3, .ref 0]
  refine xV_put (h' := [.inr (8, [.ref 1, .ref 3, .int 0]), .inr (7, [.ref 2, .int 0, .int 0, .int 0, .int 0, .int 0]), .inl (0, 300, .inl (fun _ => 0)), .inr (4, [.int 3, .int 0, .ref 4, .ref 5, .ref 6, .ref 7, .ref 10, .ref 15]), .inl (0, 4, .inl (upd (upd (upd (fun _ => 0) 0 1) 1 1) 2 1)), .inl (0, 2, .inl (upd (upd (fun _ => 0) 0 5) 1 4)), .inl (0, 2, .inl v1.1), .inl (7, 2, .inr (.inr [8, 9])), .inl (0, 120, .inl (v1.2 0)), .inl (0, 120, .inl (v1.2 1)), .inl (4, 2, .inr (.inr [11, 13])), .inr (0, [.ref 12, .int 0]), .inl (0, 6, .inl (fun _ => 0)), .inr (0, [.ref 14, .int 0]), .inl (0, 6, .inl (fun _ => 0)), .inl (5, 2, .inr (.inr [16, 20])), .inr (3, [.ref 17, .ref 18, .ref 19, .int 0, .int 0, .int 0]), .inl (0, 8, .inl (fun _ => 0)), .inl (0, 8, .inl (fun _ => 0)), .inl (0, 8, .inl (fun _ => 0)), .inr (3, [.ref 21, .ref 22, .ref 23, .int 0, .int 0, .int 0]), .inl (0, 8, .inl (fun _ => 0)), .inl (0, 8, .inl (fun _ => 0)), .inl (0, 8, .inl (fun _ => 0))]) 26 rfl dX8_init_23 (⟨_, rfl, by decide, List.mem_of_getElem? (i := 84) (by decide +kernel)⟩ : xFl RX8 21 8 1) rfl (fun q e => by cases e; rfl) (fun _ => rfl) (fun _ => rfl) (Nat.le_of_ble_eq_true rfl) rfl ?_
  refine xV_vretN (fun j => j) (h' := (hLr 0 (fun _ => 0) 0 0 0 0 0 3 0 (upd (upd (upd (fun _ => 0) 0 1) 1 1) 2 1) (upd (upd (fun _ => 0) 0 5) 1 4) v1.1 v1.2 (fun _ _ => 0) (fun _ => 0) (fun _ _ => 0) (fun _ _ => 0) (fun _ _ => 0) (fun _ => 0) (fun _ => 0) (fun _ => 0))) (xSub_id _) (fun j hj => by match j, hj with | 0, _ => rfl) hX dX8_init_26 (Nat.le_of_ble_eq_true rfl) (Nat.le_of_ble_eq_true rfl))
theorem m8_init : xMd yX8_init RX8 none j8_init 0 := ⟨List.mem_of_getElem? (i := 77) (by decide +kernel), List.mem_of_getElem? (i := 19) (by decide +kernel), rfl, by decide +kernel⟩
