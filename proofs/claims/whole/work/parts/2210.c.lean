theorem dX4_init_0 : decode cX4_init 0 = .ok (.aload_n 0, 1) := by decide +kernel
theorem dX4_init_1 : decode cX4_init 1 = .ok (.invokespecial 3, 3) := by decide +kernel
theorem dX4_init_4 : decode cX4_init 4 = .ok (.aload_n 0, 1) := by decide +kernel
theorem dX4_init_5 : decode cX4_init 5 = .ok (.iconst 4, 1) := by decide +kernel
theorem dX4_init_6 : decode cX4_init 6 = .ok (.newarray .int, 2) := by decide +kernel
theorem dX4_init_8 : decode cX4_init 8 = .ok (.putfield 9, 3) := by decide +kernel
theorem dX4_init_11 : decode cX4_init 11 = .ok (.aload_n 0, 1) := by decide +kernel
theorem dX4_init_12 : decode cX4_init 12 = .ok (.iconst 2, 1) := by decide +kernel
theorem dX4_init_13 : decode cX4_init 13 = .ok (.newarray .int, 2) := by decide +kernel
theorem dX4_init_15 : decode cX4_init 15 = .ok (.putfield 15, 3) := by decide +kernel
theorem dX4_init_18 : decode cX4_init 18 = .ok (.aload_n 0, 1) := by decide +kernel
theorem dX4_init_19 : decode cX4_init 19 = .ok (.iconst 2, 1) := by decide +kernel
theorem dX4_init_20 : decode cX4_init 20 = .ok (.newarray .int, 2) := by decide +kernel
theorem dX4_init_22 : decode cX4_init 22 = .ok (.putfield 18, 3) := by decide +kernel
theorem dX4_init_25 : decode cX4_init 25 = .ok (.aload_n 0, 1) := by decide +kernel
theorem dX4_init_26 : decode cX4_init 26 = .ok (.iconst 2, 1) := by decide +kernel
theorem dX4_init_27 : decode cX4_init 27 = .ok (.bipush 120, 2) := by decide +kernel
theorem dX4_init_29 : decode cX4_init 29 = .ok (.multianewarray 21 2, 4) := by decide +kernel
theorem dX4_init_33 : decode cX4_init 33 = .ok (.putfield 23, 3) := by decide +kernel
theorem dX4_init_36 : decode cX4_init 36 = .ok (.aload_n 0, 1) := by decide +kernel
theorem dX4_init_37 : decode cX4_init 37 = .ok (.iconst 2, 1) := by decide +kernel
theorem dX4_init_38 : decode cX4_init 38 = .ok (.anewarray 26, 3) := by decide +kernel
theorem dX4_init_41 : decode cX4_init 41 = .ok (.putfield 28, 3) := by decide +kernel
theorem dX4_init_44 : decode cX4_init 44 = .ok (.aload_n 0, 1) := by decide +kernel
theorem dX4_init_45 : decode cX4_init 45 = .ok (.iconst 2, 1) := by decide +kernel
theorem dX4_init_46 : decode cX4_init 46 = .ok (.anewarray 32, 3) := by decide +kernel
theorem dX4_init_49 : decode cX4_init 49 = .ok (.putfield 34, 3) := by decide +kernel
theorem dX4_init_52 : decode cX4_init 52 = .ok (.aload_n 0, 1) := by decide +kernel
theorem dX4_init_53 : decode cX4_init 53 = .ok (.iconst 3, 1) := by decide +kernel
theorem dX4_init_54 : decode cX4_init 54 = .ok (.putfield 38, 3) := by decide +kernel
theorem dX4_init_57 : decode cX4_init 57 = .ok (.aload_n 0, 1) := by decide +kernel
theorem dX4_init_58 : decode cX4_init 58 = .ok (.getfield 9, 3) := by decide +kernel
theorem dX4_init_61 : decode cX4_init 61 = .ok (.iconst 0, 1) := by decide +kernel
theorem dX4_init_62 : decode cX4_init 62 = .ok (.iconst 1, 1) := by decide +kernel
theorem dX4_init_63 : decode cX4_init 63 = .ok (.iastore, 1) := by decide +kernel
theorem dX4_init_64 : decode cX4_init 64 = .ok (.aload_n 0, 1) := by decide +kernel
theorem dX4_init_65 : decode cX4_init 65 = .ok (.getfield 9, 3) := by decide +kernel
theorem dX4_init_68 : decode cX4_init 68 = .ok (.iconst 1, 1) := by decide +kernel
theorem dX4_init_69 : decode cX4_init 69 = .ok (.iconst 1, 1) := by decide +kernel
theorem dX4_init_70 : decode cX4_init 70 = .ok (.iastore, 1) := by decide +kernel
theorem dX4_init_71 : decode cX4_init 71 = .ok (.aload_n 0, 1) := by decide +kernel
theorem dX4_init_72 : decode cX4_init 72 = .ok (.getfield 9, 3) := by decide +kernel
theorem dX4_init_75 : decode cX4_init 75 = .ok (.iconst 2, 1) := by decide +kernel
theorem dX4_init_76 : decode cX4_init 76 = .ok (.iconst 1, 1) := by decide +kernel
theorem dX4_init_77 : decode cX4_init 77 = .ok (.iastore, 1) := by decide +kernel
theorem dX4_init_78 : decode cX4_init 78 = .ok (.aload_n 0, 1) := by decide +kernel
theorem dX4_init_79 : decode cX4_init 79 = .ok (.getfield 15, 3) := by decide +kernel
theorem dX4_init_82 : decode cX4_init 82 = .ok (.iconst 0, 1) := by decide +kernel
theorem dX4_init_83 : decode cX4_init 83 = .ok (.iconst 5, 1) := by decide +kernel
theorem dX4_init_84 : decode cX4_init 84 = .ok (.iastore, 1) := by decide +kernel
theorem dX4_init_85 : decode cX4_init 85 = .ok (.aload_n 0, 1) := by decide +kernel
theorem dX4_init_86 : decode cX4_init 86 = .ok (.getfield 15, 3) := by decide +kernel
theorem dX4_init_89 : decode cX4_init 89 = .ok (.iconst 1, 1) := by decide +kernel
theorem dX4_init_90 : decode cX4_init 90 = .ok (.iconst 4, 1) := by decide +kernel
theorem dX4_init_91 : decode cX4_init 91 = .ok (.iastore, 1) := by decide +kernel
theorem dX4_init_92 : decode cX4_init 92 = .ok (.iconst 0, 1) := by decide +kernel
theorem dX4_init_93 : decode cX4_init 93 = .ok (.istore_n 1, 1) := by decide +kernel
theorem dX4_init_94 : decode cX4_init 94 = .ok (.iload_n 1, 1) := by decide +kernel
theorem dX4_init_95 : decode cX4_init 95 = .ok (.iconst 2, 1) := by decide +kernel
theorem dX4_init_96 : decode cX4_init 96 = .ok (.if_icmp .ge 40, 3) := by decide +kernel
theorem dX4_init_99 : decode cX4_init 99 = .ok (.aload_n 0, 1) := by decide +kernel
theorem dX4_init_100 : decode cX4_init 100 = .ok (.getfield 28, 3) := by decide +kernel
theorem dX4_init_103 : decode cX4_init 103 = .ok (.iload_n 1, 1) := by decide +kernel
theorem dX4_init_104 : decode cX4_init 104 = .ok (.new 26, 3) := by decide +kernel
theorem dX4_init_107 : decode cX4_init 107 = .ok (.dup, 1) := by decide +kernel
theorem dX4_init_108 : decode cX4_init 108 = .ok (.invokespecial 42, 3) := by decide +kernel
theorem dX4_init_111 : decode cX4_init 111 = .ok (.aastore, 1) := by decide +kernel
theorem dX4_init_112 : decode cX4_init 112 = .ok (.aload_n 0, 1) := by decide +kernel
theorem dX4_init_113 : decode cX4_init 113 = .ok (.getfield 34, 3) := by decide +kernel
theorem dX4_init_116 : decode cX4_init 116 = .ok (.iload_n 1, 1) := by decide +kernel
theorem dX4_init_117 : decode cX4_init 117 = .ok (.new 32, 3) := by decide +kernel
theorem dX4_init_120 : decode cX4_init 120 = .ok (.dup, 1) := by decide +kernel
theorem dX4_init_121 : decode cX4_init 121 = .ok (.invokespecial 43, 3) := by decide +kernel
theorem dX4_init_124 : decode cX4_init 124 = .ok (.aastore, 1) := by decide +kernel
theorem dX4_init_125 : decode cX4_init 125 = .ok (.aload_n 0, 1) := by decide +kernel
theorem dX4_init_126 : decode cX4_init 126 = .ok (.iload_n 1, 1) := by decide +kernel
theorem dX4_init_127 : decode cX4_init 127 = .ok (.invokevirtual 44, 3) := by decide +kernel
theorem dX4_init_130 : decode cX4_init 130 = .ok (.iinc 1 1, 3) := by decide +kernel
theorem dX4_init_133 : decode cX4_init 133 = .ok (.goto (-39), 3) := by decide +kernel
theorem dX4_init_136 : decode cX4_init 136 = .ok (.return_, 1) := by decide +kernel
abbrev j4_init : xJ := (cX4_init, 2, RX4, 3, 20, 330)
set_option maxRecDepth 100000 in
theorem T4_init (l : Launch) {z : Nat} {v0 v1 : (Nat → Int32) × (Nat → Nat → Int32)} (hf0 : F4_listSplits z 0 3 (upd (upd (fun _ => 0) 0 5) 1 4) (fun _ => 0) (fun _ _ => 0) = some v0) (hf1 : F4_listSplits z 1 3 (upd (upd (fun _ => 0) 0 5) 1 4) v0.1 v0.2 = some v1) {X : xX} (hl : X.1.2.1 = l) (hX : xIsN j4_init X 1 (hS 3 0 (upd (upd (upd (fun _ => 0) 0 1) 1 1) 2 1) (upd (upd (fun _ => 0) 0 5) 1 4) v1.1 v1.2 (fun _ _ => 0) (fun _ => 0) (fun _ _ => 0) (fun _ _ => 0) (fun _ _ => 0) (fun _ => 0) (fun _ => 0) (fun _ => 0))) : xV j4_init X 0 0 [.inr (4, [.int 0, .int 0, .null, .null, .null, .null, .null, .null])] 0 [(0, .ref 0)] [] := by
  refine xV_aload_n 1 rfl dX4_init_0 rfl 0 rfl ?_
  refine xV_objInit 4 rfl dX4_init_1 (List.mem_of_getElem? (i := 42) (by decide +kernel)) (Nat.le_of_ble_eq_true rfl) (Nat.le_of_ble_eq_true rfl) ?_
  refine xV_aload_n 5 rfl dX4_init_4 rfl 0 rfl ?_
  refine xV_iconst (v := 4) 6 rfl dX4_init_5 (by decide) ?_
  refine xV_newaN2 (h' := [.inr (4, [.int 0, .int 0, .null, .null, .null, .null, .null, .null]), .inl (0, 4, .inl (fun _ => 0))]) (atype := .int) (kd := 0) (a0 := (4, .inl (fun _ => 0))) 1 (by simp only [List.length_cons, List.length_nil]) 8 rfl dX4_init_6 (List.mem_of_getElem? (i := 43) (by decide +kernel)) rfl rfl (xNew0 4) (fun _ => rfl) (by decide) (by decide) (Nat.le_of_ble_eq_true rfl) (Nat.le_of_ble_eq_true rfl) (Nat.le_of_ble_eq_true rfl) rfl (xScL_of rfl) (xScS_of rfl) (by simp only [List.cons_append, List.nil_append]) (fun r1 hr1 => ?_)
  have hX := xIsN_setr hr1 (Nat.le_of_ble_eq_true rfl) hX
  have hl : (xsetr X r1).1.2.1 = l := hl
  generalize xsetr X r1 = X1 at hX hl ⊢
  refine xV_eq (n' := 1) (k' := 4) (Nat.eq_of_beq_eq_true rfl) (Nat.eq_of_beq_eq_true rfl) ?_
  refine xV_putF (h' := [.inr (4, [.int 0, .int 0, .ref 1, .null, .null, .null, .null, .null]), .inl (0, 4, .inl (fun _ => 0))]) 11 rfl hX dX4_init_8 (⟨_, rfl, by decide, List.mem_of_getElem? (i := 44) (by decide +kernel)⟩ : xFl RX4 9 4 2) rfl (fun q e => by cases e; exact ⟨rfl, rfl⟩) (fun _ => rfl) (fun _ => rfl) (Nat.le_of_ble_eq_true rfl) rfl ?_
  refine xV_aload_n 12 rfl dX4_init_11 rfl 0 rfl ?_
  refine xV_iconst (v := 2) 13 rfl dX4_init_12 (by decide) ?_
  refine xV_newaN2 (h' := [.inr (4, [.int 0, .int 0, .ref 1, .null, .null, .null, .null, .null]), .inl (0, 4, .inl (fun _ => 0)), .inl (0, 2, .inl (fun _ => 0))]) (atype := .int) (kd := 0) (a0 := (2, .inl (fun _ => 0))) 2 (by simp only [List.length_cons, List.length_nil]) 15 rfl dX4_init_13 (List.mem_of_getElem? (i := 43) (by decide +kernel)) rfl rfl (xNew0 2) (fun _ => rfl) (by decide) (by decide) (Nat.le_of_ble_eq_true rfl) (Nat.le_of_ble_eq_true rfl) (Nat.le_of_ble_eq_true rfl) rfl (xScL_of rfl) (xScS_of rfl) (by simp only [List.cons_append, List.nil_append]) (fun r2 hr2 => ?_)
  have hX := xIsN_setr hr2 (Nat.le_of_ble_eq_true rfl) hX
  have hl : (xsetr X1 r2).1.2.1 = l := hl
  generalize xsetr X1 r2 = X2 at hX hl ⊢
  refine xV_eq (n' := 2) (k' := 6) (Nat.eq_of_beq_eq_true rfl) (Nat.eq_of_beq_eq_true rfl) ?_
  refine xV_putF (h' := [.inr (4, [.int 0, .int 0, .ref 1, .ref 2, .null, .null, .null, .null]), .inl (0, 4, .inl (fun _ => 0)), .inl (0, 2, .inl (fun _ => 0))]) 18 rfl hX dX4_init_15 (⟨_, rfl, by decide, List.mem_of_getElem? (i := 45) (by decide +kernel)⟩ : xFl RX4 15 4 3) rfl (fun q e => by cases e; exact ⟨rfl, rfl⟩) (fun _ => rfl) (fun _ => rfl) (Nat.le_of_ble_eq_true rfl) rfl ?_
  refine xV_aload_n 19 rfl dX4_init_18 rfl 0 rfl ?_
  refine xV_iconst (v := 2) 20 rfl dX4_init_19 (by decide) ?_
  refine xV_newaN2 (h' := [.inr (4, [.int 0, .int 0, .ref 1, .ref 2, .null, .null, .null, .null]), .inl (0, 4, .inl (fun _ => 0)), .inl (0, 2, .inl (fun _ => 0)), .inl (0, 2, .inl (fun _ => 0))]) (atype := .int) (kd := 0) (a0 := (2, .inl (fun _ => 0))) 3 (by simp only [List.length_cons, List.length_nil]) 22 rfl dX4_init_20 (List.mem_of_getElem? (i := 43) (by decide +kernel)) rfl rfl (xNew0 2) (fun _ => rfl) (by decide) (by decide) (Nat.le_of_ble_eq_true rfl) (Nat.le_of_ble_eq_true rfl) (Nat.le_of_ble_eq_true rfl) rfl (xScL_of rfl) (xScS_of rfl) (by simp only [List.cons_append, List.nil_append]) (fun r3 hr3 => ?_)
  have hX := xIsN_setr hr3 (Nat.le_of_ble_eq_true rfl) hX
  have hl : (xsetr X2 r3).1.2.1 = l := hl
  generalize xsetr X2 r3 = X3 at hX hl ⊢
  refine xV_eq (n' := 3) (k' := 8) (Nat.eq_of_beq_eq_true rfl) (Nat.eq_of_beq_eq_true rfl) ?_
  refine xV_putF (h' := [.inr (4, [.int 0, .int 0, .ref 1, .ref 2, .ref 3, .null, .null, .null]), .inl (0, 4, .inl (fun _ => 0)), .inl (0, 2, .inl (fun _ => 0)), .inl (0, 2, .inl (fun _ => 0))]) 25 rfl hX dX4_init_22 (⟨_, rfl, by decide, List.mem_of_getElem? (i := 46) (by decide +kernel)⟩ : xFl RX4 18 4 4) rfl (fun q e => by cases e; exact ⟨rfl, rfl⟩) (fun _ => rfl) (fun _ => rfl) (Nat.le_of_ble_eq_true rfl) rfl ?_
  refine xV_aload_n 26 rfl dX4_init_25 rfl 0 rfl ?_
  refine xV_iconst (v := 2) 27 rfl dX4_init_26 (by decide) ?_
  refine xV_bipush (v := 120) 29 rfl dX4_init_27 (by decide) ?_
  refine xV_mnaN (kd := 7) (kd0 := 0) (ty := .int) (a0 := (120, .inl (fun _ => 0))) 33 rfl dX4_init_29 (List.mem_of_getElem? (i := 47) (by decide +kernel)) (List.mem_of_getElem? (i := 43) (by decide +kernel)) (fun _ _ _ z => z.2.2.2.2.2.2.2.2.1) rfl rfl rfl (by decide) (by decide) (N := 2) (M := 120) (by decide) (by decide) (by decide) (by decide) (by decide) (by decide) (by decide) (Nat.le_of_ble_eq_true rfl) (Nat.le_of_ble_eq_true rfl) (fun _ => rfl) (fun _ => rfl) (xScH_of (Nat.le_refl _) rfl) (xScL_of rfl) (xScS_of rfl) (fun r4 hr4 => ?_)
  have hX := xIsN_setr hr4 (Nat.le_of_ble_eq_true rfl) hX
  have hl : (xsetr X3 r4).1.2.1 = l := hl
  generalize xsetr X3 r4 = X4 at hX hl ⊢
  refine xV_eq (n' := 6) (k' := 250) (Nat.eq_of_beq_eq_true rfl) (Nat.eq_of_beq_eq_true rfl) ?_
  refine xV_putF (h' := [.inr (4, [.int 0, .int 0, .ref 1, .ref 2, .ref 3, .ref 4, .null, .null]), .inl (0, 4, .inl (fun _ => 0)), .inl (0, 2, .inl (fun _ => 0)), .inl (0, 2, .inl (fun _ => 0)), .inl (7, 2, .inr (.inr [5, 6])), .inl (0, 120, .inl (fun _ => 0)), .inl (0, 120, .inl (fun _ => 0))]) 36 rfl hX dX4_init_33 (⟨_, rfl, by decide, List.mem_of_getElem? (i := 48) (by decide +kernel)⟩ : xFl RX4 23 4 5) rfl (fun q e => by cases e; exact ⟨rfl, rfl⟩) (fun _ => rfl) (fun _ => rfl) (Nat.le_of_ble_eq_true rfl) rfl ?_
  refine xV_aload_n 37 rfl dX4_init_36 rfl 0 rfl ?_
  refine xV_iconst (v := 2) 38 rfl dX4_init_37 (by decide) ?_
  refine xV_newqN2 (h' := [.inr (4, [.int 0, .int 0, .ref 1, .ref 2, .ref 3, .ref 4, .null, .null]), .inl (0, 4, .inl (fun _ => 0)), .inl (0, 2, .inl (fun _ => 0)), .inl (0, 2, .inl (fun _ => 0)), .inl (7, 2, .inr (.inr [5, 6])), .inl (0, 120, .inl (fun _ => 0)), .inl (0, 120, .inl (fun _ => 0)), .inl (4, 2, .inr (.inr []))]) (kd := 4) 7 (by simp only [List.length_cons, List.length_nil]) 41 rfl dX4_init_38 (List.mem_of_getElem? (i := 49) (by decide +kernel)) (fun _ _ _ z => z.2.2.2.2.2.1) rfl (by decide) (N := 2) (by decide) (by decide) (Nat.le_of_ble_eq_true rfl) (Nat.le_of_ble_eq_true rfl) rfl (xScL_of rfl) (xScS_of rfl) (by simp only [List.cons_append, List.nil_append]) (fun r5 hr5 => ?_)
  have hX := xIsN_setr hr5 (Nat.le_of_ble_eq_true rfl) hX
  have hl : (xsetr X4 r5).1.2.1 = l := hl
  generalize xsetr X4 r5 = X5 at hX hl ⊢
  refine xV_eq (n' := 7) (k' := 252) (Nat.eq_of_beq_eq_true rfl) (Nat.eq_of_beq_eq_true rfl) ?_
  refine xV_putF (h' := [.inr (4, [.int 0, .int 0, .ref 1, .ref 2, .ref 3, .ref 4, .ref 7, .null]), .inl (0, 4, .inl (fun _ => 0)), .inl (0, 2, .inl (fun _ => 0)), .inl (0, 2, .inl (fun _ => 0)), .inl (7, 2, .inr (.inr [5, 6])), .inl (0, 120, .inl (fun _ => 0)), .inl (0, 120, .inl (fun _ => 0)), .inl (4, 2, .inr (.inr []))]) 44 rfl hX dX4_init_41 (⟨_, rfl, by decide, List.mem_of_getElem? (i := 50) (by decide +kernel)⟩ : xFl RX4 28 4 6) rfl (fun q e => by cases e; exact ⟨rfl, rfl⟩) (fun _ => rfl) (fun _ => rfl) (Nat.le_of_ble_eq_true rfl) rfl ?_
  refine xV_aload_n 45 rfl dX4_init_44 rfl 0 rfl ?_
  refine xV_iconst (v := 2) 46 rfl dX4_init_45 (by decide) ?_
  refine xV_newqN2 (h' := [.inr (4, [.int 0, .int 0, .ref 1, .ref 2, .ref 3, .ref 4, .ref 7, .null]), .inl (0, 4, .inl (fun _ => 0)), .inl (0, 2, .inl (fun _ => 0)), .inl (0, 2, .inl (fun _ => 0)), .inl (7, 2, .inr (.inr [5, 6])), .inl (0, 120, .inl (fun _ => 0)), .inl (0, 120, .inl (fun _ => 0)), .inl (4, 2, .inr (.inr [])), .inl (5, 2, .inr (.inr []))]) (kd := 5) 8 (by simp only [List.length_cons, List.length_nil]) 49 rfl dX4_init_46 (List.mem_of_getElem? (i := 51) (by decide +kernel)) (fun _ _ _ z => z.2.2.2.2.2.2.1) rfl (by decide) (N := 2) (by decide) (by decide) (Nat.le_of_ble_eq_true rfl) (Nat.le_of_ble_eq_true rfl) rfl (xScL_of rfl) (xScS_of rfl) (by simp only [List.cons_append, List.nil_append]) (fun r6 hr6 => ?_)
  have hX := xIsN_setr hr6 (Nat.le_of_ble_eq_true rfl) hX
  have hl : (xsetr X5 r6).1.2.1 = l := hl
  generalize xsetr X5 r6 = X6 at hX hl ⊢
  refine xV_eq (n' := 8) (k' := 254) (Nat.eq_of_beq_eq_true rfl) (Nat.eq_of_beq_eq_true rfl) ?_
  refine xV_putF (h' := [.inr (4, [.int 0, .int 0, .ref 1, .ref 2, .ref 3, .ref 4, .ref 7, .ref 8]), .inl (0, 4, .inl (fun _ => 0)), .inl (0, 2, .inl (fun _ => 0)), .inl (0, 2, .inl (fun _ => 0)), .inl (7, 2, .inr (.inr [5, 6])), .inl (0, 120, .inl (fun _ => 0)), .inl (0, 120, .inl (fun _ => 0)), .inl (4, 2, .inr (.inr [])), .inl (5, 2, .inr (.inr []))]) 52 rfl hX dX4_init_49 (⟨_, rfl, by decide, List.mem_of_getElem? (i := 52) (by decide +kernel)⟩ : xFl RX4 34 4 7) rfl (fun q e => by cases e; exact ⟨rfl, rfl⟩) (fun _ => rfl) (fun _ => rfl) (Nat.le_of_ble_eq_true rfl) rfl ?_
  refine xV_aload_n 53 rfl dX4_init_52 rfl 0 rfl ?_
  refine xV_iconst (v := 3) 54 rfl dX4_init_53 (by decide) ?_
  refine xV_put (h' := [.inr (4, [.int 3, .int 0, .ref 1, .ref 2, .ref 3, .ref 4, .ref 7, .ref 8]), .inl (0, 4, .inl (fun _ => 0)), .inl (0, 2, .inl (fun _ => 0)), .inl (0, 2, .inl (fun _ => 0)), .inl (7, 2, .inr (.inr [5, 6])), .inl (0, 120, .inl (fun _ => 0)), .inl (0, 120, .inl (fun _ => 0)), .inl (4, 2, .inr (.inr [])), .inl (5, 2, .inr (.inr []))]) 57 rfl dX4_init_54 (⟨_, rfl, by decide, List.mem_of_getElem? (i := 53) (by decide +kernel)⟩ : xFl RX4 38 4 0) rfl (fun q e => by cases e; rfl) (fun _ => rfl) (fun _ => rfl) (Nat.le_of_ble_eq_true rfl) rfl ?_
  refine xV_aload_n 58 rfl dX4_init_57 rfl 0 rfl ?_
  refine xV_get (v := .ref 1) 61 rfl dX4_init_58 (⟨_, rfl, by decide, List.mem_of_getElem? (i := 44) (by decide +kernel)⟩ : xFl RX4 9 4 2) rfl rfl ?_
  refine xV_iconst (v := 0) 62 rfl dX4_init_61 (by decide) ?_
  refine xV_iconst (v := 1) 63 rfl dX4_init_62 (by decide) ?_
  refine xV_iastore (h' := [.inr (4, [.int 3, .int 0, .ref 1, .ref 2, .ref 3, .ref 4, .ref 7, .ref 8]), .inl (0, 4, .inl (upd (fun _ => 0) 0 1)), .inl (0, 2, .inl (fun _ => 0)), .inl (0, 2, .inl (fun _ => 0)), .inl (7, 2, .inr (.inr [5, 6])), .inl (0, 120, .inl (fun _ => 0)), .inl (0, 120, .inl (fun _ => 0)), .inl (4, 2, .inr (.inr [])), .inl (5, 2, .inr (.inr []))]) (j := 0) 64 rfl dX4_init_63 rfl (xin_ok (by decide)) (by decide) rfl ?_
  refine xV_aload_n 65 rfl dX4_init_64 rfl 0 rfl ?_
  refine xV_get (v := .ref 1) 68 rfl dX4_init_65 (⟨_, rfl, by decide, List.mem_of_getElem? (i := 44) (by decide +kernel)⟩ : xFl RX4 9 4 2) rfl rfl ?_
  refine xV_iconst (v := 1) 69 rfl dX4_init_68 (by decide) ?_
  refine xV_iconst (v := 1) 70 rfl dX4_init_69 (by decide) ?_
  refine xV_iastore (h' := [.inr (4, [.int 3, .int 0, .ref 1, .ref 2, .ref 3, .ref 4, .ref 7, .ref 8]), .inl (0, 4, .inl (upd (upd (fun _ => 0) 0 1) 1 1)), .inl (0, 2, .inl (fun _ => 0)), .inl (0, 2, .inl (fun _ => 0)), .inl (7, 2, .inr (.inr [5, 6])), .inl (0, 120, .inl (fun _ => 0)), .inl (0, 120, .inl (fun _ => 0)), .inl (4, 2, .inr (.inr [])), .inl (5, 2, .inr (.inr []))]) (j := 1) 71 rfl dX4_init_70 rfl (xin_ok (by decide)) (by decide) rfl ?_
  refine xV_aload_n 72 rfl dX4_init_71 rfl 0 rfl ?_
  refine xV_get (v := .ref 1) 75 rfl dX4_init_72 (⟨_, rfl, by decide, List.mem_of_getElem? (i := 44) (by decide +kernel)⟩ : xFl RX4 9 4 2) rfl rfl ?_
  refine xV_iconst (v := 2) 76 rfl dX4_init_75 (by decide) ?_
  refine xV_iconst (v := 1) 77 rfl dX4_init_76 (by decide) ?_
  refine xV_iastore (h' := [.inr (4, [.int 3, .int 0, .ref 1, .ref 2, .ref 3, .ref 4, .ref 7, .ref 8]), .inl (0, 4, .inl (upd (upd (upd (fun _ => 0) 0 1) 1 1) 2 1)), .inl (0, 2, .inl (fun _ => 0)), .inl (0, 2, .inl (fun _ => 0)), .inl (7, 2, .inr (.inr [5, 6])), .inl (0, 120, .inl (fun _ => 0)), .inl (0, 120, .inl (fun _ => 0)), .inl (4, 2, .inr (.inr [])), .inl (5, 2, .inr (.inr []))]) (j := 2) 78 rfl dX4_init_77 rfl (xin_ok (by decide)) (by decide) rfl ?_
  refine xV_aload_n 79 rfl dX4_init_78 rfl 0 rfl ?_
  refine xV_get (v := .ref 2) 82 rfl dX4_init_79 (⟨_, rfl, by decide, List.mem_of_getElem? (i := 45) (by decide +kernel)⟩ : xFl RX4 15 4 3) rfl rfl ?_
  refine xV_iconst (v := 0) 83 rfl dX4_init_82 (by decide) ?_
  refine xV_iconst (v := 5) 84 rfl dX4_init_83 (by decide) ?_
  refine xV_iastore (h' := [.inr (4, [.int 3, .int 0, .ref 1, .ref 2, .ref 3, .ref 4, .ref 7, .ref 8]), .inl (0, 4, .inl (upd (upd (upd (fun _ => 0) 0 1) 1 1) 2 1)), .inl (0, 2, .inl (upd (fun _ => 0) 0 5)), .inl (0, 2, .inl (fun _ => 0)), .inl (7, 2, .inr (.inr [5, 6])), .inl (0, 120, .inl (fun _ => 0)), .inl (0, 120, .inl (fun _ => 0)), .inl (4, 2, .inr (.inr [])), .inl (5, 2, .inr (.inr []))]) (j := 0) 85 rfl dX4_init_84 rfl (xin_ok (by decide)) (by decide) rfl ?_
  refine xV_aload_n 86 rfl dX4_init_85 rfl 0 rfl ?_
  refine xV_get (v := .ref 2) 89 rfl dX4_init_86 (⟨_, rfl, by decide, List.mem_of_getElem? (i := 45) (by decide +kernel)⟩ : xFl RX4 15 4 3) rfl rfl ?_
  refine xV_iconst (v := 1) 90 rfl dX4_init_89 (by decide) ?_
  refine xV_iconst (v := 4) 91 rfl dX4_init_90 (by decide) ?_
  refine xV_iastore (h' := [.inr (4, [.int 3, .int 0, .ref 1, .ref 2, .ref 3, .ref 4, .ref 7, .ref 8]), .inl (0, 4, .inl (upd (upd (upd (fun _ => 0) 0 1) 1 1) 2 1)), .inl (0, 2, .inl (upd (upd (fun _ => 0) 0 5) 1 4)), .inl (0, 2, .inl (fun _ => 0)), .inl (7, 2, .inr (.inr [5, 6])), .inl (0, 120, .inl (fun _ => 0)), .inl (0, 120, .inl (fun _ => 0)), .inl (4, 2, .inr (.inr [])), .inl (5, 2, .inr (.inr []))]) (j := 1) 92 rfl dX4_init_91 rfl (xin_ok (by decide)) (by decide) rfl ?_
  refine xV_iconst (v := 0) 93 rfl dX4_init_92 (by decide) ?_
  refine xV_istore_n (L' := [(1, .int 0), (0, .ref 0)]) 94 rfl dX4_init_93 rfl (xlt rfl) rfl ?_
  refine xV_iload_n 95 rfl dX4_init_94 rfl 0 rfl ?_
  refine xV_iconst (v := 2) 96 rfl dX4_init_95 (by decide) ?_
  refine xV_icmp_ge (tgt := 136) 99 rfl dX4_init_96 (by decide) (fun hq => absurd hq (by decide)) (fun _ => ?_)
  refine xV_aload_n 100 rfl dX4_init_99 rfl 1 rfl ?_
  refine xV_get (v := .ref 7) 103 rfl dX4_init_100 (⟨_, rfl, by decide, List.mem_of_getElem? (i := 50) (by decide +kernel)⟩ : xFl RX4 28 4 6) rfl rfl ?_
  refine xV_iload_n 104 rfl dX4_init_103 rfl 0 rfl ?_
  refine xV_newN2 (h' := [.inr (4, [.int 3, .int 0, .ref 1, .ref 2, .ref 3, .ref 4, .ref 7, .ref 8]), .inl (0, 4, .inl (upd (upd (upd (fun _ => 0) 0 1) 1 1) 2 1)), .inl (0, 2, .inl (upd (upd (fun _ => 0) 0 5) 1 4)), .inl (0, 2, .inl (fun _ => 0)), .inl (7, 2, .inr (.inr [5, 6])), .inl (0, 120, .inl (fun _ => 0)), .inl (0, 120, .inl (fun _ => 0)), .inl (4, 2, .inr (.inr [])), .inl (5, 2, .inr (.inr [])), .inr (0, [.null, .int 0])]) (ci := 0) (fs := [.null, .int 0]) 9 (by simp only [List.length_cons, List.length_nil]) 107 rfl dX4_init_104 rfl ⟨List.mem_of_getElem? (i := 49) (by decide +kernel), List.mem_of_getElem? (i := 54) (by decide +kernel), List.mem_of_getElem? (i := 55) (by decide +kernel)⟩ (fun _ => rfl) (by decide) (Nat.le_of_ble_eq_true rfl) (Nat.le_of_ble_eq_true rfl) rfl (xScL_of rfl) (xScS_of rfl) (by simp only [List.cons_append, List.nil_append]) (fun r7 hr7 => ?_)
  have hX := xIsN_setr hr7 (Nat.le_of_ble_eq_true rfl) hX
  have hl : (xsetr X6 r7).1.2.1 = l := hl
  generalize xsetr X6 r7 = X7 at hX hl ⊢
  refine xV_eq (n' := 9) (k' := 256) (Nat.eq_of_beq_eq_true rfl) (Nat.eq_of_beq_eq_true rfl) ?_
  refine xV_dup 108 rfl dX4_init_107 rfl ?_
  refine xV_ctorN2 (h0 := [.inr (4, [.int 3, .int 0, .ref 1, .ref 2, .ref 3, .ref 4, .ref 7, .ref 8]), .inl (0, 4, .inl (upd (upd (upd (fun _ => 0) 0 1) 1 1) 2 1)), .inl (0, 2, .inl (upd (upd (fun _ => 0) 0 5) 1 4)), .inl (0, 2, .inl (fun _ => 0)), .inl (7, 2, .inr (.inr [5, 6])), .inl (0, 120, .inl (fun _ => 0)), .inl (0, 120, .inl (fun _ => 0)), .inl (4, 2, .inr (.inr [])), .inl (5, 2, .inr (.inr []))]) (h' := [.inr (4, [.int 3, .int 0, .ref 1, .ref 2, .ref 3, .ref 4, .ref 7, .ref 8]), .inl (0, 4, .inl (upd (upd (upd (fun _ => 0) 0 1) 1 1) 2 1)), .inl (0, 2, .inl (upd (upd (fun _ => 0) 0 5) 1 4)), .inl (0, 2, .inl (fun _ => 0)), .inl (7, 2, .inr (.inr [5, 6])), .inl (0, 120, .inl (fun _ => 0)), .inl (0, 120, .inl (fun _ => 0)), .inl (4, 2, .inr (.inr [])), .inl (5, 2, .inr (.inr [])), .inr (0, [.ref 10, .int 0]), .inl (0, 6, .inl (fun _ => 0))]) (rest := [.ref 9, .int 0, .ref 7]) 111 rfl 9 (by simp only [List.length_cons, List.length_nil]) dX4_init_108 hl (C0_init l) m0_init rfl (List.mem_of_getElem? (i := 58) (by decide +kernel)) (by decide) (fun _ => rfl) (Nat.le_of_ble_eq_true rfl) (Nat.le_of_ble_eq_true rfl) (Nat.le_of_ble_eq_true rfl) ⟨(Nat.le_of_ble_eq_true rfl), (Nat.le_of_ble_eq_true rfl)⟩ (xScH_of (Nat.le_succ_of_le (Nat.le_of_eq (by simp only [List.length_cons, List.length_nil]))) rfl) (xScL_of rfl) (xScS_of rfl) (by simp only [List.cons_append, List.nil_append]) (by unfold hB; simp only [List.map_cons, List.map_nil, xe, xa, xv, List.cons_append, List.nil_append]) (fun r8 hr8 => ?_)
  have hX := xIsN_setr hr8 (Nat.le_of_ble_eq_true rfl) hX
  have hl : (xsetr X7 r8).1.2.1 = l := hl
  generalize xsetr X7 r8 = X8 at hX hl ⊢
  refine xV_eq (n' := 10) (k' := 262) (Nat.eq_of_beq_eq_true rfl) (Nat.eq_of_beq_eq_true rfl) ?_
  refine xV_astqN (h' := [.inr (4, [.int 3, .int 0, .ref 1, .ref 2, .ref 3, .ref 4, .ref 7, .ref 8]), .inl (0, 4, .inl (upd (upd (upd (fun _ => 0) 0 1) 1 1) 2 1)), .inl (0, 2, .inl (upd (upd (fun _ => 0) 0 5) 1 4)), .inl (0, 2, .inl (fun _ => 0)), .inl (7, 2, .inr (.inr [5, 6])), .inl (0, 120, .inl (fun _ => 0)), .inl (0, 120, .inl (fun _ => 0)), .inl (4, 2, .inr (.inr [9])), .inl (5, 2, .inr (.inr [])), .inr (0, [.ref 10, .int 0]), .inl (0, 6, .inl (fun _ => 0))]) 112 rfl dX4_init_111 rfl rfl rfl rfl (xin_ok (by decide)) (by decide) rfl ?_
  refine xV_aload_n 113 rfl dX4_init_112 rfl 1 rfl ?_
  refine xV_get (v := .ref 8) 116 rfl dX4_init_113 (⟨_, rfl, by decide, List.mem_of_getElem? (i := 52) (by decide +kernel)⟩ : xFl RX4 34 4 7) rfl rfl ?_
  refine xV_iload_n 117 rfl dX4_init_116 rfl 0 rfl ?_
  refine xV_newN2 (h' := [.inr (4, [.int 3, .int 0, .ref 1, .ref 2, .ref 3, .ref 4, .ref 7, .ref 8]), .inl (0, 4, .inl (upd (upd (upd (fun _ => 0) 0 1) 1 1) 2 1)), .inl (0, 2, .inl (upd (upd (fun _ => 0) 0 5) 1 4)), .inl (0, 2, .inl (fun _ => 0)), .inl (7, 2, .inr (.inr [5, 6])), .inl (0, 120, .inl (fun _ => 0)), .inl (0, 120, .inl (fun _ => 0)), .inl (4, 2, .inr (.inr [9])), .inl (5, 2, .inr (.inr [])), .inr (0, [.ref 10, .int 0]), .inl (0, 6, .inl (fun _ => 0)), .inr (3, [.null, .null, .null, .int 0, .int 0, .int 0])]) (ci := 3) (fs := [.null, .null, .null, .int 0, .int 0, .int 0]) 11 (by simp only [List.length_cons, List.length_nil]) 120 rfl dX4_init_117 rfl ⟨List.mem_of_getElem? (i := 51) (by decide +kernel), List.mem_of_getElem? (i := 56) (by decide +kernel), List.mem_of_getElem? (i := 57) (by decide +kernel)⟩ (fun _ => rfl) (by decide) (Nat.le_of_ble_eq_true rfl) (Nat.le_of_ble_eq_true rfl) rfl (xScL_of rfl) (xScS_of rfl) (by simp only [List.cons_append, List.nil_append]) (fun r9 hr9 => ?_)
  have hX := xIsN_setr hr9 (Nat.le_of_ble_eq_true rfl) hX
  have hl : (xsetr X8 r9).1.2.1 = l := hl
  generalize xsetr X8 r9 = X9 at hX hl ⊢
  refine xV_eq (n' := 11) (k' := 268) (Nat.eq_of_beq_eq_true rfl) (Nat.eq_of_beq_eq_true rfl) ?_
  refine xV_dup 121 rfl dX4_init_120 rfl ?_
  refine xV_ctorN2 (h0 := [.inr (4, [.int 3, .int 0, .ref 1, .ref 2, .ref 3, .ref 4, .ref 7, .ref 8]), .inl (0, 4, .inl (upd (upd (upd (fun _ => 0) 0 1) 1 1) 2 1)), .inl (0, 2, .inl (upd (upd (fun _ => 0) 0 5) 1 4)), .inl (0, 2, .inl (fun _ => 0)), .inl (7, 2, .inr (.inr [5, 6])), .inl (0, 120, .inl (fun _ => 0)), .inl (0, 120, .inl (fun _ => 0)), .inl (4, 2, .inr (.inr [9])), .inl (5, 2, .inr (.inr [])), .inr (0, [.ref 10, .int 0]), .inl (0, 6, .inl (fun _ => 0))]) (h' := [.inr (4, [.int 3, .int 0, .ref 1, .ref 2, .ref 3, .ref 4, .ref 7, .ref 8]), .inl (0, 4, .inl (upd (upd (upd (fun _ => 0) 0 1) 1 1) 2 1)), .inl (0, 2, .inl (upd (upd (fun _ => 0) 0 5) 1 4)), .inl (0, 2, .inl (fun _ => 0)), .inl (7, 2, .inr (.inr [5, 6])), .inl (0, 120, .inl (fun _ => 0)), .inl (0, 120, .inl (fun _ => 0)), .inl (4, 2, .inr (.inr [9])), .inl (5, 2, .inr (.inr [])), .inr (0, [.ref 10, .int 0]), .inl (0, 6, .inl (fun _ => 0)), .inr (3, [.ref 12, .ref 13, .ref 14, .int 0, .int 0, .int 0]), .inl (0, 8, .inl (fun _ => 0)), .inl (0, 8, .inl (fun _ => 0)), .inl (0, 8, .inl (fun _ => 0))]) (rest := [.ref 11, .int 0, .ref 8]) 124 rfl 11 (by simp only [List.length_cons, List.length_nil]) dX4_init_121 hl (C3_init l) m3_init rfl (List.mem_of_getElem? (i := 62) (by decide +kernel)) (by decide) (fun _ => rfl) (Nat.le_of_ble_eq_true rfl) (Nat.le_of_ble_eq_true rfl) (Nat.le_of_ble_eq_true rfl) ⟨(Nat.le_of_ble_eq_true rfl), (Nat.le_of_ble_eq_true rfl)⟩ (xScH_of (Nat.le_succ_of_le (Nat.le_of_eq (by simp only [List.length_cons, List.length_nil]))) rfl) (xScL_of rfl) (xScS_of rfl) (by simp only [List.cons_append, List.nil_append]) (by unfold hP; simp only [List.map_cons, List.map_nil, xe, xa, xv, List.cons_append, List.nil_append]) (fun r10 hr10 => ?_)
  have hX := xIsN_setr hr10 (Nat.le_of_ble_eq_true rfl) hX
  have hl : (xsetr X9 r10).1.2.1 = l := hl
  generalize xsetr X9 r10 = X10 at hX hl ⊢
  refine xV_eq (n' := 14) (k' := 292) (Nat.eq_of_beq_eq_true rfl) (Nat.eq_of_beq_eq_true rfl) ?_
  refine xV_astqN (h' := [.inr (4, [.int 3, .int 0, .ref 1, .ref 2, .ref 3, .ref 4, .ref 7, .ref 8]), .inl (0, 4, .inl (upd (upd (upd (fun _ => 0) 0 1) 1 1) 2 1)), .inl (0, 2, .inl (upd (upd (fun _ => 0) 0 5) 1 4)), .inl (0, 2, .inl (fun _ => 0)), .inl (7, 2, .inr (.inr [5, 6])), .inl (0, 120, .inl (fun _ => 0)), .inl (0, 120, .inl (fun _ => 0)), .inl (4, 2, .inr (.inr [9])), .inl (5, 2, .inr (.inr [11])), .inr (0, [.ref 10, .int 0]), .inl (0, 6, .inl (fun _ => 0)), .inr (3, [.ref 12, .ref 13, .ref 14, .int 0, .int 0, .int 0]), .inl (0, 8, .inl (fun _ => 0)), .inl (0, 8, .inl (fun _ => 0)), .inl (0, 8, .inl (fun _ => 0))]) 125 rfl dX4_init_124 rfl rfl rfl rfl (xin_ok (by decide)) (by decide) rfl ?_
  refine xV_aload_n 126 rfl dX4_init_125 rfl 1 rfl ?_
  refine xV_iload_n 127 rfl dX4_init_126 rfl 0 rfl ?_
  refine xV_vir2 (g := fun j => ([0, 2, 3, 4, 5, 6, 1, 7, 8] : List Nat).getD j 0) (hl := (hSl 3 0 (upd (upd (fun _ => 0) 0 5) 1 4) (fun _ => 0) (fun _ _ => 0))) (hl' := (hSl 3 0 (upd (upd (fun _ => 0) 0 5) 1 4) v0.1 v0.2)) (h' := [.inr (4, [.int 3, .int 0, .ref 1, .ref 2, .ref 3, .ref 4, .ref 7, .ref 8]), .inl (0, 4, .inl (upd (upd (upd (fun _ => 0) 0 1) 1 1) 2 1)), .inl (0, 2, .inl (upd (upd (fun _ => 0) 0 5) 1 4)), .inl (0, 2, .inl v0.1), .inl (7, 2, .inr (.inr [5, 6])), .inl (0, 120, .inl (v0.2 0)), .inl (0, 120, .inl (v0.2 1)), .inl (4, 2, .inr (.inr [9])), .inl (5, 2, .inr (.inr [11])), .inr (0, [.ref 10, .int 0]), .inl (0, 6, .inl (fun _ => 0)), .inr (3, [.ref 12, .ref 13, .ref 14, .int 0, .int 0, .int 0]), .inl (0, 8, .inl (fun _ => 0)), .inl (0, 8, .inl (fun _ => 0)), .inl (0, 8, .inl (fun _ => 0))]) (rest := []) (ci := 4) 130 rfl dX4_init_127 hl (C4l_listSplits l hf0) m4_listSplits v4_listSplits (List.mem_of_getElem? (i := 68) (by decide +kernel)) rfl rfl rfl (⟨by show xNd _ 6 = true; decide +kernel, ⟨rfl, rfl, rfl, rfl, rfl, rfl, trivial⟩, ⟨rfl, rfl, rfl, rfl, rfl, rfl, trivial⟩, ⟨[1, 7, 8, 9, 10, 11, 12, 13, 14], ⟨rfl, rfl, rfl, rfl, rfl, rfl, rfl, rfl, rfl, trivial⟩, by show xCov _ 6 _ 15 = true; decide +kernel⟩, rfl, ⟨_, rfl⟩⟩) rfl (Nat.le_of_ble_eq_true rfl) (Nat.le_of_ble_eq_true rfl) (Nat.le_of_ble_eq_true rfl) ⟨(Nat.le_of_ble_eq_true rfl), (Nat.le_of_ble_eq_true rfl)⟩ ?_
  show xV j4_init X10 14 292 [.inr (4, [.int 3, .int 0, .ref 1, .ref 2, .ref 3, .ref 4, .ref 7, .ref 8]), .inl (0, 4, .inl (upd (upd (upd (fun _ => 0) 0 1) 1 1) 2 1)), .inl (0, 2, .inl (upd (upd (fun _ => 0) 0 5) 1 4)), .inl (0, 2, .inl v0.1), .inl (7, 2, .inr (.inr [5, 6])), .inl (0, 120, .inl (v0.2 0)), .inl (0, 120, .inl (v0.2 1)), .inl (4, 2, .inr (.inr [9])), .inl (5, 2, .inr (.inr [11])), .inr (0, [.ref 10, .int 0]), .inl (0, 6, .inl (fun _ => 0)), .inr (3, [.ref 12, .ref 13, .ref 14, .int 0, .int 0, .int 0]), .inl (0, 8, .inl (fun _ => 0)), .inl (0, 8, .inl (fun _ => 0)), .inl (0, 8, .inl (fun _ => 0))] 130 [(1, .int 0), (0, .ref 0)] []
  refine xV_iinc (w := 1) (L' := [(1, .int 1), (0, .ref 0)]) 133 rfl dX4_init_130 0 rfl (by decide) (xlt rfl) rfl ?_
  refine xV_goto (tgt := 94) dX4_init_133 (by decide) ?_
  refine xV_iload_n 95 rfl dX4_init_94 rfl 0 rfl ?_
  refine xV_iconst (v := 2) 96 rfl dX4_init_95 (by decide) ?_
  refine xV_icmp_ge (tgt := 136) 99 rfl dX4_init_96 (by decide) (fun hq => absurd hq (by decide)) (fun _ => ?_)
  refine xV_aload_n 100 rfl dX4_init_99 rfl 1 rfl ?_
  refine xV_get (v := .ref 7) 103 rfl dX4_init_100 (⟨_, rfl, by decide, List.mem_of_getElem? (i := 50) (by decide +kernel)⟩ : xFl RX4 28 4 6) rfl rfl ?_
  refine xV_iload_n 104 rfl dX4_init_103 rfl 0 rfl ?_
  refine xV_newN2 (h' := [.inr (4, [.int 3, .int 0, .ref 1, .ref 2, .ref 3, .ref 4, .ref 7, .ref 8]), .inl (0, 4, .inl (upd (upd (upd (fun _ => 0) 0 1) 1 1) 2 1)), .inl (0, 2, .inl (upd (upd (fun _ => 0) 0 5) 1 4)), .inl (0, 2, .inl v0.1), .inl (7, 2, .inr (.inr [5, 6])), .inl (0, 120, .inl (v0.2 0)), .inl (0, 120, .inl (v0.2 1)), .inl (4, 2, .inr (.inr [9])), .inl (5, 2, .inr (.inr [11])), .inr (0, [.ref 10, .int 0]), .inl (0, 6, .inl (fun _ => 0)), .inr (3, [.ref 12, .ref 13, .ref 14, .int 0, .int 0, .int 0]), .inl (0, 8, .inl (fun _ => 0)), .inl (0, 8, .inl (fun _ => 0)), .inl (0, 8, .inl (fun _ => 0)), .inr (0, [.null, .int 0])]) (ci := 0) (fs := [.null, .int 0]) 15 (by simp only [List.length_cons, List.length_nil]) 107 rfl dX4_init_104 rfl ⟨List.mem_of_getElem? (i := 49) (by decide +kernel), List.mem_of_getElem? (i := 54) (by decide +kernel), List.mem_of_getElem? (i := 55) (by decide +kernel)⟩ (fun _ => rfl) (by decide) (Nat.le_of_ble_eq_true rfl) (Nat.le_of_ble_eq_true rfl) rfl (xScL_of rfl) (xScS_of rfl) (by simp only [List.cons_append, List.nil_append]) (fun r11 hr11 => ?_)
  have hX := xIsN_setr hr11 (Nat.le_of_ble_eq_true rfl) hX
  have hl : (xsetr X10 r11).1.2.1 = l := hl
  generalize xsetr X10 r11 = X11 at hX hl ⊢
  refine xV_eq (n' := 15) (k' := 294) (Nat.eq_of_beq_eq_true rfl) (Nat.eq_of_beq_eq_true rfl) ?_
  refine xV_dup 108 rfl dX4_init_107 rfl ?_
  refine xV_ctorN2 (h0 := [.inr (4, [.int 3, .int 0, .ref 1, .ref 2, .ref 3, .ref 4, .ref 7, .ref 8]), .inl (0, 4, .inl (upd (upd (upd (fun _ => 0) 0 1) 1 1) 2 1)), .inl (0, 2, .inl (upd (upd (fun _ => 0) 0 5) 1 4)), .inl (0, 2, .inl v0.1), .inl (7, 2, .inr (.inr [5, 6])), .inl (0, 120, .inl (v0.2 0)), .inl (0, 120, .inl (v0.2 1)), .inl (4, 2, .inr (.inr [9])), .inl (5, 2, .inr (.inr [11])), .inr (0, [.ref 10, .int 0]), .inl (0, 6, .inl (fun _ => 0)), .inr (3, [.ref 12, .ref 13, .ref 14, .int 0, .int 0, .int 0]), .inl (0, 8, .inl (fun _ => 0)), .inl (0, 8, .inl (fun _ => 0)), .inl (0, 8, .inl (fun _ => 0))]) (h' := [.inr (4, [.int 3, .int 0, .ref 1, .ref 2, .ref 3, .ref 4, .ref 7, .ref 8]), .inl (0, 4, .inl (upd (upd (upd (fun _ => 0) 0 1) 1 1) 2 1)), .inl (0, 2, .inl (upd (upd (fun _ => 0) 0 5) 1 4)), .inl (0, 2, .inl v0.1), .inl (7, 2, .inr (.inr [5, 6])), .inl (0, 120, .inl (v0.2 0)), .inl (0, 120, .inl (v0.2 1)), .inl (4, 2, .inr (.inr [9])), .inl (5, 2, .inr (.inr [11])), .inr (0, [.ref 10, .int 0]), .inl (0, 6, .inl (fun _ => 0)), .inr (3, [.ref 12, .ref 13, .ref 14, .int 0, .int 0, .int 0]), .inl (0, 8, .inl (fun _ => 0)), .inl (0, 8, .inl (fun _ => 0)), .inl (0, 8, .inl (fun _ => 0)), .inr (0, [.ref 16, .int 0]), .inl (0, 6, .inl (fun _ => 0))]) (rest := [.ref 15, .int 1, .ref 7]) 111 rfl 15 (by simp only [List.length_cons, List.length_nil]) dX4_init_108 hl (C0_init l) m0_init rfl (List.mem_of_getElem? (i := 58) (by decide +kernel)) (by decide) (fun _ => rfl) (Nat.le_of_ble_eq_true rfl) (Nat.le_of_ble_eq_true rfl) (Nat.le_of_ble_eq_true rfl) ⟨(Nat.le_of_ble_eq_true rfl), (Nat.le_of_ble_eq_true rfl)⟩ (xScH_of (Nat.le_succ_of_le (Nat.le_of_eq (by simp only [List.length_cons, List.length_nil]))) rfl) (xScL_of rfl) (xScS_of rfl) (by simp only [List.cons_append, List.nil_append]) (by unfold hB; simp only [List.map_cons, List.map_nil, xe, xa, xv, List.cons_append, List.nil_append]) (fun r12 hr12 => ?_)
  have hX := xIsN_setr hr12 (Nat.le_of_ble_eq_true rfl) hX
  have hl : (xsetr X11 r12).1.2.1 = l := hl
  generalize xsetr X11 r12 = X12 at hX hl ⊢
  refine xV_eq (n' := 16) (k' := 300) (Nat.eq_of_beq_eq_true rfl) (Nat.eq_of_beq_eq_true rfl) ?_
  refine xV_astqN (h' := [.inr (4, [.int 3, .int 0, .ref 1, .ref 2, .ref 3, .ref 4, .ref 7, .ref 8]), .inl (0, 4, .inl (upd (upd (upd (fun _ => 0) 0 1) 1 1) 2 1)), .inl (0, 2, .inl (upd (upd (fun _ => 0) 0 5) 1 4)), .inl (0, 2, .inl v0.1), .inl (7, 2, .inr (.inr [5, 6])), .inl (0, 120, .inl (v0.2 0)), .inl (0, 120, .inl (v0.2 1)), .inl (4, 2, .inr (.inr [9, 15])), .inl (5, 2, .inr (.inr [11])), .inr (0, [.ref 10, .int 0]), .inl (0, 6, .inl (fun _ => 0)), .inr (3, [.ref 12, .ref 13, .ref 14, .int 0, .int 0, .int 0]), .inl (0, 8, .inl (fun _ => 0)), .inl (0, 8, .inl (fun _ => 0)), .inl (0, 8, .inl (fun _ => 0)), .inr (0, [.ref 16, .int 0]), .inl (0, 6, .inl (fun _ => 0))]) 112 rfl dX4_init_111 rfl rfl rfl rfl (xin_ok (by decide)) (by decide) (by simp only [List.set_cons_succ, List.set_cons_zero, List.cons_append, List.nil_append]) ?_
  refine xV_aload_n 113 rfl dX4_init_112 rfl 1 rfl ?_
  refine xV_get (v := .ref 8) 116 rfl dX4_init_113 (⟨_, rfl, by decide, List.mem_of_getElem? (i := 52) (by decide +kernel)⟩ : xFl RX4 34 4 7) rfl rfl ?_
  refine xV_iload_n 117 rfl dX4_init_116 rfl 0 rfl ?_
  refine xV_newN2 (h' := [.inr (4, [.int 3, .int 0, .ref 1, .ref 2, .ref 3, .ref 4, .ref 7, .ref 8]), .inl (0, 4, .inl (upd (upd (upd (fun _ => 0) 0 1) 1 1) 2 1)), .inl (0, 2, .inl (upd (upd (fun _ => 0) 0 5) 1 4)), .inl (0, 2, .inl v0.1), .inl (7, 2, .inr (.inr [5, 6])), .inl (0, 120, .inl (v0.2 0)), .inl (0, 120, .inl (v0.2 1)), .inl (4, 2, .inr (.inr [9, 15])), .inl (5, 2, .inr (.inr [11])), .inr (0, [.ref 10, .int 0]), .inl (0, 6, .inl (fun _ => 0)), .inr (3, [.ref 12, .ref 13, .ref 14, .int 0, .int 0, .int 0]), .inl (0, 8, .inl (fun _ => 0)), .inl (0, 8, .inl (fun _ => 0)), .inl (0, 8, .inl (fun _ => 0)), .inr (0, [.ref 16, .int 0]), .inl (0, 6, .inl (fun _ => 0)), .inr (3, [.null, .null, .null, .int 0, .int 0, .int 0])]) (ci := 3) (fs := [.null, .null, .null, .int 0, .int 0, .int 0]) 17 (by simp only [List.length_cons, List.length_nil]) 120 rfl dX4_init_117 rfl ⟨List.mem_of_getElem? (i := 51) (by decide +kernel), List.mem_of_getElem? (i := 56) (by decide +kernel), List.mem_of_getElem? (i := 57) (by decide +kernel)⟩ (fun _ => rfl) (by decide) (Nat.le_of_ble_eq_true rfl) (Nat.le_of_ble_eq_true rfl) rfl (xScL_of rfl) (xScS_of rfl) (by simp only [List.cons_append, List.nil_append]) (fun r13 hr13 => ?_)
  have hX := xIsN_setr hr13 (Nat.le_of_ble_eq_true rfl) hX
  have hl : (xsetr X12 r13).1.2.1 = l := hl
  generalize xsetr X12 r13 = X13 at hX hl ⊢
  refine xV_eq (n' := 17) (k' := 306) (Nat.eq_of_beq_eq_true rfl) (Nat.eq_of_beq_eq_true rfl) ?_
  refine xV_dup 121 rfl dX4_init_120 rfl ?_
  refine xV_ctorN2 (h0 := [.inr (4, [.int 3, .int 0, .ref 1, .ref 2, .ref 3, .ref 4, .ref 7, .ref 8]), .inl (0, 4, .inl (upd (upd (upd (fun _ => 0) 0 1) 1 1) 2 1)), .inl (0, 2, .inl (upd (upd (fun _ => 0) 0 5) 1 4)), .inl (0, 2, .inl v0.1), .inl (7, 2, .inr (.inr [5, 6])), .inl (0, 120, .inl (v0.2 0)), .inl (0, 120, .inl (v0.2 1)), .inl (4, 2, .inr (.inr [9, 15])), .inl (5, 2, .inr (.inr [11])), .inr (0, [.ref 10, .int 0]), .inl (0, 6, .inl (fun _ => 0)), .inr (3, [.ref 12, .ref 13, .ref 14, .int 0, .int 0, .int 0]), .inl (0, 8, .inl (fun _ => 0)), .inl (0, 8, .inl (fun _ => 0)), .inl (0, 8, .inl (fun _ => 0)), .inr (0, [.ref 16, .int 0]), .inl (0, 6, .inl (fun _ => 0))]) (h' := [.inr (4, [.int 3, .int 0, .ref 1, .ref 2, .ref 3, .ref 4, .ref 7, .ref 8]), .inl (0, 4, .inl (upd (upd (upd (fun _ => 0) 0 1) 1 1) 2 1)), .inl (0, 2, .inl (upd (upd (fun _ => 0) 0 5) 1 4)), .inl (0, 2, .inl v0.1), .inl (7, 2, .inr (.inr [5, 6])), .inl (0, 120, .inl (v0.2 0)), .inl (0, 120, .inl (v0.2 1)), .inl (4, 2, .inr (.inr [9, 15])), .inl (5, 2, .inr (.inr [11])), .inr (0, [.ref 10, .int 0]), .inl (0, 6, .inl (fun _ => 0)), .inr (3, [.ref 12, .ref 13, .ref 14, .int 0, .int 0, .int 0]), .inl (0, 8, .inl (fun _ => 0)), .inl (0, 8, .inl (fun _ => 0)), .inl (0, 8, .inl (fun _ => 0)), .inr (0, [.ref 16, .int 0]), .inl (0, 6, .inl (fun _ => 0)), .inr (3, [.ref 18, .ref 19, .ref 20, .int 0, .int 0, .int 0]), .inl (0, 8, .inl (fun _ => 0)), .inl (0, 8, .inl (fun _ => 0)), .inl (0, 8, .inl (fun _ => 0))]) (rest := [.ref 17, .int 1, .ref 8]) 124 rfl 17 (by simp only [List.length_cons, List.length_nil]) dX4_init_121 hl (C3_init l) m3_init rfl (List.mem_of_getElem? (i := 62) (by decide +kernel)) (by decide) (fun _ => rfl) (Nat.le_of_ble_eq_true rfl) (Nat.le_of_ble_eq_true rfl) (Nat.le_of_ble_eq_true rfl) ⟨(Nat.le_of_ble_eq_true rfl), (Nat.le_of_ble_eq_true rfl)⟩ (xScH_of (Nat.le_succ_of_le (Nat.le_of_eq (by simp only [List.length_cons, List.length_nil]))) rfl) (xScL_of rfl) (xScS_of rfl) (by simp only [List.cons_append, List.nil_append]) (by unfold hP; simp only [List.map_cons, List.map_nil, xe, xa, xv, List.cons_append, List.nil_append]) (fun r14 hr14 => ?_)
  have hX := xIsN_setr hr14 (Nat.le_of_ble_eq_true rfl) hX
  have hl : (xsetr X13 r14).1.2.1 = l := hl
  generalize xsetr X13 r14 = X14 at hX hl ⊢
  refine xV_eq (n' := 20) (k' := 330) (Nat.eq_of_beq_eq_true rfl) (Nat.eq_of_beq_eq_true rfl) ?_
  refine xV_astqN (h' := [.inr (4, [.int 3, .int 0, .ref 1, .ref 2, .ref 3, .ref 4, .ref 7, .ref 8]), .inl (0, 4, .inl (upd (upd (upd (fun _ => 0) 0 1) 1 1) 2 1)), .inl (0, 2, .inl (upd (upd (fun _ => 0) 0 5) 1 4)), .inl (0, 2, .inl v0.1), .inl (7, 2, .inr (.inr [5, 6])), .inl (0, 120, .inl (v0.2 0)), .inl (0, 120, .inl (v0.2 1)), .inl (4, 2, .inr (.inr [9, 15])), .inl (5, 2, .inr (.inr [11, 17])), .inr (0, [.ref 10, .int 0]), .inl (0, 6, .inl (fun _ => 0)), .inr (3, [.ref 12, .ref 13, .ref 14, .int 0, .int 0, .int 0]), .inl (0, 8, .inl (fun _ => 0)), .inl (0, 8, .inl (fun _ => 0)), .inl (0, 8, .inl (fun _ => 0)), .inr (0, [.ref 16, .int 0]), .inl (0, 6, .inl (fun _ => 0)), .inr (3, [.ref 18, .ref 19, .ref 20, .int 0, .int 0, .int 0]), .inl (0, 8, .inl (fun _ => 0)), .inl (0, 8, .inl (fun _ => 0)), .inl (0, 8, .inl (fun _ => 0))]) 125 rfl dX4_init_124 rfl rfl rfl rfl (xin_ok (by decide)) (by decide) (by simp only [List.set_cons_succ, List.set_cons_zero, List.cons_append, List.nil_append]) ?_
  refine xV_aload_n 126 rfl dX4_init_125 rfl 1 rfl ?_
  refine xV_iload_n 127 rfl dX4_init_126 rfl 0 rfl ?_
  refine xV_vir2 (g := fun j => ([0, 2, 3, 4, 5, 6, 1, 7, 8] : List Nat).getD j 0) (hl := (hSl 3 0 (upd (upd (fun _ => 0) 0 5) 1 4) v0.1 v0.2)) (hl' := (hSl 3 0 (upd (upd (fun _ => 0) 0 5) 1 4) v1.1 v1.2)) (h' := [.inr (4, [.int 3, .int 0, .ref 1, .ref 2, .ref 3, .ref 4, .ref 7, .ref 8]), .inl (0, 4, .inl (upd (upd (upd (fun _ => 0) 0 1) 1 1) 2 1)), .inl (0, 2, .inl (upd (upd (fun _ => 0) 0 5) 1 4)), .inl (0, 2, .inl v1.1), .inl (7, 2, .inr (.inr [5, 6])), .inl (0, 120, .inl (v1.2 0)), .inl (0, 120, .inl (v1.2 1)), .inl (4, 2, .inr (.inr [9, 15])), .inl (5, 2, .inr (.inr [11, 17])), .inr (0, [.ref 10, .int 0]), .inl (0, 6, .inl (fun _ => 0)), .inr (3, [.ref 12, .ref 13, .ref 14, .int 0, .int 0, .int 0]), .inl (0, 8, .inl (fun _ => 0)), .inl (0, 8, .inl (fun _ => 0)), .inl (0, 8, .inl (fun _ => 0)), .inr (0, [.ref 16, .int 0]), .inl (0, 6, .inl (fun _ => 0)), .inr (3, [.ref 18, .ref 19, .ref 20, .int 0, .int 0, .int 0]), .inl (0, 8, .inl (fun _ => 0)), .inl (0, 8, .inl (fun _ => 0)), .inl (0, 8, .inl (fun _ => 0))]) (rest := []) (ci := 4) 130 rfl dX4_init_127 hl (C4l_listSplits l hf1) m4_listSplits v4_listSplits (List.mem_of_getElem? (i := 68) (by decide +kernel)) rfl rfl rfl (⟨by show xNd _ 6 = true; decide +kernel, ⟨rfl, rfl, rfl, rfl, rfl, rfl, trivial⟩, ⟨rfl, rfl, rfl, rfl, rfl, rfl, trivial⟩, ⟨[1, 7, 8, 9, 10, 11, 12, 13, 14, 15, 16, 17, 18, 19, 20], ⟨rfl, rfl, rfl, rfl, rfl, rfl, rfl, rfl, rfl, rfl, rfl, rfl, rfl, rfl, rfl, trivial⟩, by show xCov _ 6 _ 21 = true; decide +kernel⟩, rfl, ⟨_, rfl⟩⟩) rfl (Nat.le_of_ble_eq_true rfl) (Nat.le_of_ble_eq_true rfl) (Nat.le_of_ble_eq_true rfl) ⟨(Nat.le_of_ble_eq_true rfl), (Nat.le_of_ble_eq_true rfl)⟩ ?_
  show xV j4_init X14 20 330 [.inr (4, [.int 3, .int 0, .ref 1, .ref 2, .ref 3, .ref 4, .ref 7, .ref 8]), .inl (0, 4, .inl (upd (upd (upd (fun _ => 0) 0 1) 1 1) 2 1)), .inl (0, 2, .inl (upd (upd (fun _ => 0) 0 5) 1 4)), .inl (0, 2, .inl v1.1), .inl (7, 2, .inr (.inr [5, 6])), .inl (0, 120, .inl (v1.2 0)), .inl (0, 120, .inl (v1.2 1)), .inl (4, 2, .inr (.inr [9, 15])), .inl (5, 2, .inr (.inr [11, 17])), .inr (0, [.ref 10, .int 0]), .inl (0, 6, .inl (fun _ => 0)), .inr (3, [.ref 12, .ref 13, .ref 14, .int 0, .int 0, .int 0]), .inl (0, 8, .inl (fun _ => 0)), .inl (0, 8, .inl (fun _ => 0)), .inl (0, 8, .inl (fun _ => 0)), .inr (0, [.ref 16, .int 0]), .inl (0, 6, .inl (fun _ => 0)), .inr (3, [.ref 18, .ref 19, .ref 20, .int 0, .int 0, .int 0]), .inl (0, 8, .inl (fun _ => 0)), .inl (0, 8, .inl (fun _ => 0)), .inl (0, 8, .inl (fun _ => 0))] 130 [(1, .int 1), (0, .ref 0)] []
  refine xV_iinc (w := 2) (L' := [(1, .int 2), (0, .ref 0)]) 133 rfl dX4_init_130 0 rfl (by decide) (xlt rfl) rfl ?_
  refine xV_goto (tgt := 94) dX4_init_133 (by decide) ?_
  refine xV_iload_n 95 rfl dX4_init_94 rfl 0 rfl ?_
  refine xV_iconst (v := 2) 96 rfl dX4_init_95 (by decide) ?_
  refine xV_icmp_ge (tgt := 136) 99 rfl dX4_init_96 (by decide) (fun _ => ?_) (fun hq => absurd (by decide) hq)
  refine xV_vretN (fun j => ([0, 1, 2, 3, 4, 5, 6, 7, 9, 10, 15, 16, 8, 11, 12, 13, 14, 17, 18, 19, 20] : List Nat).getD j 0) (h' := (hS 3 0 (upd (upd (upd (fun _ => 0) 0 1) 1 1) 2 1) (upd (upd (fun _ => 0) 0 5) 1 4) v1.1 v1.2 (fun _ _ => 0) (fun _ => 0) (fun _ _ => 0) (fun _ _ => 0) (fun _ _ => 0) (fun _ => 0) (fun _ => 0) (fun _ => 0))) (xSub_of (by show xNd _ 21 = true; decide +kernel) ⟨rfl, rfl, rfl, rfl, rfl, rfl, rfl, rfl, rfl, rfl, rfl, rfl, rfl, rfl, rfl, rfl, rfl, rfl, rfl, rfl, rfl, trivial⟩) (fun j hj => by match j, hj with | 0, _ => rfl) hX dX4_init_136 (Nat.le_of_ble_eq_true rfl) (Nat.le_of_ble_eq_true rfl)
theorem C4_init (l : Launch) {z : Nat} {v0 v1 : (Nat → Int32) × (Nat → Nat → Int32)} (hf0 : F4_listSplits z 0 3 (upd (upd (fun _ => 0) 0 5) 1 4) (fun _ => 0) (fun _ _ => 0) = some v0) (hf1 : F4_listSplits z 1 3 (upd (upd (fun _ => 0) 0 5) 1 4) v0.1 v0.2 = some v1) : xCtN l yX4_init j4_init (.inr (4, [.int 0, .int 0, .null, .null, .null, .null, .null, .null])) (hS 3 0 (upd (upd (upd (fun _ => 0) 0 1) 1 1) 2 1) (upd (upd (fun _ => 0) 0 5) 1 4) v1.1 v1.2 (fun _ _ => 0) (fun _ => 0) (fun _ _ => 0) (fun _ _ => 0) (fun _ _ => 0) (fun _ => 0) (fun _ => 0) (fun _ => 0)) := xCtN_of (by decide) rfl rfl (by decide) (fun X hl hX => T4_init l hf0 hf1 hl hX)
theorem m4_init : xMd yX4_init RX4 none j4_init 0 := ⟨List.mem_of_getElem? (i := 41) (by decide +kernel), List.mem_of_getElem? (i := 15) (by decide +kernel), rfl, by decide +kernel⟩
