theorem xIns {ws : List Cond} (ps : List Nat) (h : ws.map some = ps.map (fun i => lw_tbl[i]?)) : ∀ w ∈ ws, w ∈ lw_tbl := by
  intro w hw
  have h1 : some w ∈ ws.map some := List.mem_map.mpr ⟨w, hw, rfl⟩
  rw [h] at h1
  obtain ⟨i, -, hi⟩ := List.mem_map.mp h1
  exact List.mem_of_getElem? hi
set_option maxRecDepth 100000 in
theorem wI_x : ∀ w ∈ xAtW.filter goodWord, w ∈ lw_tbl := xIns [128, 1072, 1081, 1083, 1086, 1088, 1073, 1074, 138, 139, 1075, 1080, 1084, 1104, 1062, 1105, 1064, 1106, 1066, 1076, 1078, 1068, 1100, 1101, 1103, 1068, 1091, 1092, 1093, 1094, 1094, 1095, 1096, 1097, 1097, 1098, 1099, 1100, 1090, 1051, 1059, 1060, 1061, 1063, 1065, 1067, 1071, 1070, 1069] (by decide +kernel)
set_option maxRecDepth 100000 in
theorem wI_y : ∀ w ∈ xAtW.filter (fun w => !goodWord w), w ∈ lw_tbl := xIns [1054, 1056, 1058, 1052] (by decide +kernel)
