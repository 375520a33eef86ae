/-- what an invariant of the two heaps must keep -/
def xLawOk (l : Launch) (Inv Iny : xHp → xHp → Prop) : Prop := ((∀ hx hm, Inv hx hm → xShp hx hm) ∧ (∀ hx hm, Iny hx hm → xShp hx hm) ∧ (∀ hx hm, Inv hx hm → Iny hx hm)) ∧
  xSt Inv Iny l yX9_feed yX10_feed j9_feed j10_feed (fun as => as.length = 5) ∧
  xStP Inv Iny l yX9_text yX10_text j9_text j10_text (fun as => as.length = 1) ∧
  xSt Inv Iny l yX9_field yX10_field j9_field j10_field (fun as => as.length = 1) ∧
  xSt Inv Iny l yX9_lose yX10_lose j9_lose j10_lose (fun as => as.length = 0) ∧
  xSt Inv Iny l yX9_forces yX10_forces j9_forces j10_forces (fun as => as.length = 2) ∧
  xSt Inv Iny l yX9_ties yX10_ties j9_ties j10_ties (fun as => as.length = 1) ∧
  xSt Inv Iny l yX9_splits yX10_splits j9_splits j10_splits (fun as => as.length = 1) ∧
  xStS Inv Iny l ∧
  xSt Inv Iny l yX9_number yX10_number j9_number j10_number (fun as => as.length = 2) ∧
  xSt Inv Iny l yX9_gain yX10_gain j9_gain j10_gain (fun as => as.length = 2) ∧
  xSt Inv Iny l yX9_shapes yX10_shapes j9_shapes j10_shapes (fun as => as.length = 1) ∧
  xSt Inv Iny l yX9_shape yX10_shape j9_shape j10_shape (fun as => as.length = 3) ∧
  xStL Inv Iny l yX9_ways yX10_ways j9_ways j10_ways (fun as => as.length = 3) ∧
  xSt Inv Iny l yX9_worse yX10_worse j9_worse j10_worse (fun as => as.length = 3 ∧ (as.getD 2 0 = 0 ∨ as.getD 2 0 = 1)) ∧
  xSt Inv Iny l yX9_left yX10_left j9_left j10_left (fun as => as.length = 2) ∧
  xSt Inv Iny l yX9_rounds yX10_rounds j9_rounds j10_rounds (fun as => as.length = 0) ∧
  xSt Inv Iny l yX9_safe yX10_safe j9_safe j10_safe (fun as => as.length = 2) ∧
  xSt Inv Iny l yX9_add yX10_add j9_add j10_add (fun as => as.length = 2) ∧
  xSt Inv Iny l yX9_shut yX10_shut j9_shut j10_shut (fun as => as.length = 1) ∧
  xSt Inv Iny l yX9_book yX10_book j9_book j10_book (fun as => as.length = 2) ∧
  xSt Inv Iny l yX9_value yX10_value j9_value j10_value (fun as => as.length = 1) ∧
  xSt Inv Iny l yX9_best yX10_best j9_best j10_best (fun as => as.length = 3) ∧
  xSt Inv Iny l yX9_valueWith yX10_valueWith j9_valueWith j10_valueWith (fun as => as.length = 3) ∧
  xSt Inv Iny l yX9_needless yX10_needless j9_needless j10_needless (fun as => as.length = 1) ∧
  xSt Inv Iny l yX9_plan yX10_plan j9_plan j10_plan (fun as => as.length = 3) ∧
  xSt Inv Iny l yX9_entry yX10_entry j9_entry j10_entry (fun as => as.length = 3) ∧
  xSt Inv Iny l yX9_hold yX10_hold j9_hold j10_hold (fun as => as.length = 2) ∧
  xSt Inv Iny l yX9_reply yX10_reply j9_reply j10_reply (fun as => as.length = 1) ∧
  xSt Inv Iny l yX9_meet yX10_meet j9_meet j10_meet (fun as => as.length = 0) ∧
  xSt Inv Iny l yX9_evenHold yX10_evenHold j9_evenHold j10_evenHold (fun as => as.length = 2) ∧
  xSt Inv Iny l yX9_evenShare yX10_evenShare j9_evenShare j10_evenShare (fun as => as.length = 3) ∧
  xSt Inv Iny l yX9_both yX10_both j9_both j10_both (fun as => as.length = 1) ∧
  xSt Inv Iny l yX9_mean yX10_mean j9_mean j10_mean (fun as => as.length = 3) ∧
  xSt Inv Iny l yX9_state yX10_state j9_state j10_state (fun as => as.length = 1) ∧
  xSt Inv Iny l yX9_draw yX10_draw j9_draw j10_draw (fun as => as.length = 2 ∧ (as.getD 1 0 = 0 ∨ as.getD 1 0 = 1)) ∧
  xSt Inv Iny l yX9_match yX10_match j9_match j10_match (fun as => as.length = 1) ∧
  xSt Inv Iny l yX9_note yX10_note j9_note j10_note (fun as => as.length = 2) ∧
  xSt Inv Iny l yX9_against yX10_against j9_against j10_against (fun as => as.length = 2) ∧
  xSt Inv Iny l yX9_apart yX10_apart j9_apart j10_apart (fun as => as.length = 2) ∧
  xSt Inv Iny l yX9_count yX10_count j9_count j10_count (fun as => as.length = 1)
theorem dL_law_23 : decode cL_law 23 = .ok (.iload 4, 2) := by decide +kernel
theorem dL_law_25 : decode cL_law 25 = .ok (.aload_n 0, 1) := by decide +kernel
theorem dL_law_26 : decode cL_law 26 = .ok (.arraylength, 1) := by decide +kernel
theorem dL_law_27 : decode cL_law 27 = .ok (.bipush 6, 2) := by decide +kernel
theorem dL_law_29 : decode cL_law 29 = .ok (.isub, 1) := by decide +kernel
theorem dL_law_30 : decode cL_law 30 = .ok (.if_icmp .gt 1652, 3) := by decide +kernel
theorem dL_law_33 : decode cL_law 33 = .ok (.aload_n 0, 1) := by decide +kernel
theorem dL_law_34 : decode cL_law 34 = .ok (.iload 4, 2) := by decide +kernel
theorem dL_law_36 : decode cL_law 36 = .ok (.iaload, 1) := by decide +kernel
theorem dL_law_37 : decode cL_law 37 = .ok (.bipush 63, 2) := by decide +kernel
theorem dL_law_39 : decode cL_law 39 = .ok (.iand, 1) := by decide +kernel
theorem dL_law_1676 : decode cL_law 1676 = .ok (.iinc 4 6, 3) := by decide +kernel
theorem dL_law_1679 : decode cL_law 1679 = .ok (.goto (-1656), 3) := by decide +kernel
theorem dL_law_1682 : decode cL_law 1682 = .ok (.iconst 1, 1) := by decide +kernel
theorem dL_law_1683 : decode cL_law 1683 = .ok (.ireturn, 1) := by decide +kernel
set_option maxRecDepth 100000 in
theorem dL_law_40 : decode cL_law 40 = .ok (.tableswitch 1636 0 39 #[176, 249, 274, 299, 312, 349, 374, 399, 467, 504, 541, 566, 615, 665, 730, 767, 780, 817, 854, 879, 916, 941, 990, 1039, 1064, 1113, 1162, 1199, 1224, 1237, 1274, 1323, 1348, 1397, 1422, 1475, 1500, 1537, 1574, 1611], 176) := by decide +kernel
theorem xLe6 {t L : Nat} (hL : L ≤ 3072) (ht : t ≤ 600) : (Int32.ofNat L - 6 < Int32.ofNat (6 * t)) ↔ L < 6 * t + 6 := by
  have e : Int32.ofNat L - 6 = Int32.ofInt ((L : Int) - 6) := by
    rw [Int32.ofInt_sub]; rfl
  rw [e, Int32.lt_iff_toInt_lt, Int32.toInt_ofInt_of_le (by omega) (by omega), xI32 (by omega)]
  omega
theorem xInc6 (t : Nat) : Int32.ofNat (6 * t) + Int32.ofInt 6 = Int32.ofNat (6 * (t + 1)) := by
  rw [show Int32.ofInt 6 = Int32.ofNat 6 from rfl, xArgS, show 6 * t + 6 = 6 * (t + 1) by omega]
theorem xArg0I {t L : Nat} (ht : 6 * t + 6 ≤ L) (hL : L ≤ 3072) : vp_in (Int32.ofNat (6 * t)) L := by
  have := xArgI (c := 0) 0 (by decide) ht hL
  rw [Int32.add_zero] at this
  exact this
set_option maxRecDepth 100000 in
set_option maxHeartbeats 8000000 in
theorem law_loop {l : Launch} {Inv : Nat → xHp → xHp → Prop} (hOk : ∀ t, t < 512 → xLawOk l (Inv t) (Inv (t + 1))) {b L : Nat} {xs : Nat → Int32} (hL : L ≤ 3072) : ∀ (rem t n k : Nat) (X : xX) (hx hm : xHp) (out : Nat → Int64), xLw X b L xs → X.1.2.1 = l → Inv t hx hm → L < 6 * (t + rem) + 6 → t + rem ≤ 600 → n + 1101 * rem ≤ 601024 → k + 6606 * rem ≤ 7293034 → xV jL_law X n k (hLw hx hm out) 23 (xLocs t) [] := by
  intro rem
  induction rem with
  | zero =>
    intro t n k X hx hm out hW hl hI hb ht hn hk
    refine xV_iload 25 rfl dL_law_23 0 rfl ?_
    refine xV_aload_n 26 rfl dL_law_25 rfl 1 rfl ?_
    refine xV_slenL 27 rfl hW dL_law_26 ?_
    refine xV_bipush (v := 6) 29 rfl dL_law_27 (by decide) ?_
    refine xV_isub 30 rfl dL_law_29 ?_
    refine xV_icmp_gt (tgt := 1682) 33 rfl dL_law_30 (by decide) (fun _ => ?_) (fun hq => absurd ((xLe6 hL (by omega)).mpr (by omega)) hq)
    refine xV_iconst (v := 1) 1683 rfl dL_law_1682 (by decide) ?_
    exact xV_endL hW dL_law_1683 (by omega) (by omega)
  | succ rem ih =>
    intro t n k X hx hm out hW hl hI hb ht hn hk
    refine xV_iload 25 rfl dL_law_23 0 rfl ?_
    refine xV_aload_n 26 rfl dL_law_25 rfl 1 rfl ?_
    refine xV_slenL 27 rfl hW dL_law_26 ?_
    refine xV_bipush (v := 6) 29 rfl dL_law_27 (by decide) ?_
    refine xV_isub 30 rfl dL_law_29 ?_
    refine xV_icmp_gt (tgt := 1682) 33 rfl dL_law_30 (by decide) (fun _ => ?_) (fun hq => ?_)
    · refine xV_iconst (v := 1) 1683 rfl dL_law_1682 (by decide) ?_
      exact xV_endL hW dL_law_1683 (by omega) (by omega)
    have hsix : 6 * t + 6 ≤ L := Nat.le_of_not_lt (fun q => hq ((xLe6 hL (by omega)).mpr q))
    have hT := hOk t (by omega)
    have hK : xLwK (Inv (t + 1)) l X b L xs n k t := by
      intro X' n' k' hx' hm' out' hW' hl' hn' hk' hI'
      refine xV_iinc (w := Int32.ofNat (6 * (t + 1))) (L' := xLocs (t + 1)) 1679 rfl dL_law_1676 0 rfl (xInc6 t) (xlt rfl) rfl ?_
      refine xV_goto (tgt := 23) dL_law_1679 (by decide) ?_
      exact ih (t + 1) n' k' X' hx' hm' out' hW' hl' hI' (by omega) (by omega) (by omega) (by omega)
    refine xV_aload_n 34 rfl dL_law_33 rfl 1 rfl ?_
    refine xV_iload 36 rfl dL_law_34 0 rfl ?_
    refine xV_sld 37 rfl hW dL_law_36 (xArg0I hsix hL) (xArgC (by omega)) ?_
    refine xV_bipush (v := 63) 39 rfl dL_law_37 (by decide) ?_
    refine xV_iand 40 rfl dL_law_39 ?_
    generalize xs (6 * t) &&& 63 = c
    by_cases h0 : c = 0
    · refine xV_tin (tgt := 216) dL_law_40 h0 (by decide) (by decide) rfl (by decide) ?_
      exact Lw_feed hT.1.1 hT.1.2.1 hT.2.1 hW hl hI hsix hL (by omega) (by omega) hK
    by_cases h1 : c = 1
    · refine xV_tin (tgt := 289) dL_law_40 h1 (by decide) (by decide) rfl (by decide) ?_
      exact Lw_text hT.1.1 hT.1.2.1 hT.2.2.1 hW hl hI hsix hL (by omega) (by omega) hK
    by_cases h2 : c = 2
    · refine xV_tin (tgt := 314) dL_law_40 h2 (by decide) (by decide) rfl (by decide) ?_
      exact Lw_field hT.1.1 hT.1.2.1 hT.2.2.2.1 hW hl hI hsix hL (by omega) (by omega) hK
    by_cases h3 : c = 3
    · refine xV_tin (tgt := 339) dL_law_40 h3 (by decide) (by decide) rfl (by decide) ?_
      exact Lw_lose hT.1.1 hT.1.2.1 hT.2.2.2.2.1 hW hl hI hsix hL (by omega) (by omega) hK
    by_cases h4 : c = 4
    · refine xV_tin (tgt := 352) dL_law_40 h4 (by decide) (by decide) rfl (by decide) ?_
      exact Lw_forces hT.1.1 hT.1.2.1 hT.2.2.2.2.2.1 hW hl hI hsix hL (by omega) (by omega) hK
    by_cases h5 : c = 5
    · refine xV_tin (tgt := 389) dL_law_40 h5 (by decide) (by decide) rfl (by decide) ?_
      exact Lw_ties hT.1.1 hT.1.2.1 hT.2.2.2.2.2.2.1 hW hl hI hsix hL (by omega) (by omega) hK
    by_cases h6 : c = 6
    · refine xV_tin (tgt := 414) dL_law_40 h6 (by decide) (by decide) rfl (by decide) ?_
      exact Lw_splits hT.1.1 hT.1.2.1 hT.2.2.2.2.2.2.2.1 hW hl hI hsix hL (by omega) (by omega) hK
    by_cases h7 : c = 7
    · refine xV_tin (tgt := 439) dL_law_40 h7 (by decide) (by decide) rfl (by decide) ?_
      exact Lw_split hT.1.1 hT.1.2.1 hT.2.2.2.2.2.2.2.2.1 hW hl hI hsix hL (by omega) (by omega) hK
    by_cases h8 : c = 8
    · refine xV_tin (tgt := 507) dL_law_40 h8 (by decide) (by decide) rfl (by decide) ?_
      exact Lw_number hT.1.1 hT.1.2.1 hT.2.2.2.2.2.2.2.2.2.1 hW hl hI hsix hL (by omega) (by omega) hK
    by_cases h9 : c = 9
    · refine xV_tin (tgt := 544) dL_law_40 h9 (by decide) (by decide) rfl (by decide) ?_
      exact Lw_gain hT.1.1 hT.1.2.1 hT.2.2.2.2.2.2.2.2.2.2.1 hW hl hI hsix hL (by omega) (by omega) hK
    by_cases h10 : c = 10
    · refine xV_tin (tgt := 581) dL_law_40 h10 (by decide) (by decide) rfl (by decide) ?_
      exact Lw_shapes hT.1.1 hT.1.2.1 hT.2.2.2.2.2.2.2.2.2.2.2.1 hW hl hI hsix hL (by omega) (by omega) hK
    by_cases h11 : c = 11
    · refine xV_tin (tgt := 606) dL_law_40 h11 (by decide) (by decide) rfl (by decide) ?_
      exact Lw_shape hT.1.1 hT.1.2.1 hT.2.2.2.2.2.2.2.2.2.2.2.2.1 hW hl hI hsix hL (by omega) (by omega) hK
    by_cases h12 : c = 12
    · refine xV_tin (tgt := 655) dL_law_40 h12 (by decide) (by decide) rfl (by decide) ?_
      exact Lw_ways hT.1.1 hT.1.2.1 hT.2.2.2.2.2.2.2.2.2.2.2.2.2.1 hW hl hI hsix hL (by omega) (by omega) hK
    by_cases h13 : c = 13
    · refine xV_tin (tgt := 705) dL_law_40 h13 (by decide) (by decide) rfl (by decide) ?_
      exact Lw_worse hT.1.1 hT.1.2.1 hT.2.2.2.2.2.2.2.2.2.2.2.2.2.2.1 hW hl hI hsix hL (by omega) (by omega) hK
    by_cases h14 : c = 14
    · refine xV_tin (tgt := 770) dL_law_40 h14 (by decide) (by decide) rfl (by decide) ?_
      exact Lw_left hT.1.1 hT.1.2.1 hT.2.2.2.2.2.2.2.2.2.2.2.2.2.2.2.1 hW hl hI hsix hL (by omega) (by omega) hK
    by_cases h15 : c = 15
    · refine xV_tin (tgt := 807) dL_law_40 h15 (by decide) (by decide) rfl (by decide) ?_
      exact Lw_rounds hT.1.1 hT.1.2.1 hT.2.2.2.2.2.2.2.2.2.2.2.2.2.2.2.2.1 hW hl hI hsix hL (by omega) (by omega) hK
    by_cases h16 : c = 16
    · refine xV_tin (tgt := 820) dL_law_40 h16 (by decide) (by decide) rfl (by decide) ?_
      exact Lw_safe hT.1.1 hT.1.2.1 hT.2.2.2.2.2.2.2.2.2.2.2.2.2.2.2.2.2.1 hW hl hI hsix hL (by omega) (by omega) hK
    by_cases h17 : c = 17
    · refine xV_tin (tgt := 857) dL_law_40 h17 (by decide) (by decide) rfl (by decide) ?_
      exact Lw_add hT.1.1 hT.1.2.1 hT.2.2.2.2.2.2.2.2.2.2.2.2.2.2.2.2.2.2.1 hW hl hI hsix hL (by omega) (by omega) hK
    by_cases h18 : c = 18
    · refine xV_tin (tgt := 894) dL_law_40 h18 (by decide) (by decide) rfl (by decide) ?_
      exact Lw_shut hT.1.1 hT.1.2.1 hT.2.2.2.2.2.2.2.2.2.2.2.2.2.2.2.2.2.2.2.1 hW hl hI hsix hL (by omega) (by omega) hK
    by_cases h19 : c = 19
    · refine xV_tin (tgt := 919) dL_law_40 h19 (by decide) (by decide) rfl (by decide) ?_
      exact Lw_book hT.1.1 hT.1.2.1 hT.2.2.2.2.2.2.2.2.2.2.2.2.2.2.2.2.2.2.2.2.1 hW hl hI hsix hL (by omega) (by omega) hK
    by_cases h20 : c = 20
    · refine xV_tin (tgt := 956) dL_law_40 h20 (by decide) (by decide) rfl (by decide) ?_
      exact Lw_value hT.1.1 hT.1.2.1 hT.2.2.2.2.2.2.2.2.2.2.2.2.2.2.2.2.2.2.2.2.2.1 hW hl hI hsix hL (by omega) (by omega) hK
    by_cases h21 : c = 21
    · refine xV_tin (tgt := 981) dL_law_40 h21 (by decide) (by decide) rfl (by decide) ?_
      exact Lw_best hT.1.1 hT.1.2.1 hT.2.2.2.2.2.2.2.2.2.2.2.2.2.2.2.2.2.2.2.2.2.2.1 hW hl hI hsix hL (by omega) (by omega) hK
    by_cases h22 : c = 22
    · refine xV_tin (tgt := 1030) dL_law_40 h22 (by decide) (by decide) rfl (by decide) ?_
      exact Lw_valueWith hT.1.1 hT.1.2.1 hT.2.2.2.2.2.2.2.2.2.2.2.2.2.2.2.2.2.2.2.2.2.2.2.1 hW hl hI hsix hL (by omega) (by omega) hK
    by_cases h23 : c = 23
    · refine xV_tin (tgt := 1079) dL_law_40 h23 (by decide) (by decide) rfl (by decide) ?_
      exact Lw_needless hT.1.1 hT.1.2.1 hT.2.2.2.2.2.2.2.2.2.2.2.2.2.2.2.2.2.2.2.2.2.2.2.2.1 hW hl hI hsix hL (by omega) (by omega) hK
    by_cases h24 : c = 24
    · refine xV_tin (tgt := 1104) dL_law_40 h24 (by decide) (by decide) rfl (by decide) ?_
      exact Lw_plan hT.1.1 hT.1.2.1 hT.2.2.2.2.2.2.2.2.2.2.2.2.2.2.2.2.2.2.2.2.2.2.2.2.2.1 hW hl hI hsix hL (by omega) (by omega) hK
    by_cases h25 : c = 25
    · refine xV_tin (tgt := 1153) dL_law_40 h25 (by decide) (by decide) rfl (by decide) ?_
      exact Lw_entry hT.1.1 hT.1.2.1 hT.2.2.2.2.2.2.2.2.2.2.2.2.2.2.2.2.2.2.2.2.2.2.2.2.2.2.1 hW hl hI hsix hL (by omega) (by omega) hK
    by_cases h26 : c = 26
    · refine xV_tin (tgt := 1202) dL_law_40 h26 (by decide) (by decide) rfl (by decide) ?_
      exact Lw_hold hT.1.1 hT.1.2.1 hT.2.2.2.2.2.2.2.2.2.2.2.2.2.2.2.2.2.2.2.2.2.2.2.2.2.2.2.1 hW hl hI hsix hL (by omega) (by omega) hK
    by_cases h27 : c = 27
    · refine xV_tin (tgt := 1239) dL_law_40 h27 (by decide) (by decide) rfl (by decide) ?_
      exact Lw_reply hT.1.1 hT.1.2.1 hT.2.2.2.2.2.2.2.2.2.2.2.2.2.2.2.2.2.2.2.2.2.2.2.2.2.2.2.2.1 hW hl hI hsix hL (by omega) (by omega) hK
    by_cases h28 : c = 28
    · refine xV_tin (tgt := 1264) dL_law_40 h28 (by decide) (by decide) rfl (by decide) ?_
      exact Lw_meet hT.1.1 hT.1.2.1 hT.2.2.2.2.2.2.2.2.2.2.2.2.2.2.2.2.2.2.2.2.2.2.2.2.2.2.2.2.2.1 hW hl hI hsix hL (by omega) (by omega) hK
    by_cases h29 : c = 29
    · refine xV_tin (tgt := 1277) dL_law_40 h29 (by decide) (by decide) rfl (by decide) ?_
      exact Lw_evenHold hT.1.1 hT.1.2.1 hT.2.2.2.2.2.2.2.2.2.2.2.2.2.2.2.2.2.2.2.2.2.2.2.2.2.2.2.2.2.2.1 hW hl hI hsix hL (by omega) (by omega) hK
    by_cases h30 : c = 30
    · refine xV_tin (tgt := 1314) dL_law_40 h30 (by decide) (by decide) rfl (by decide) ?_
      exact Lw_evenShare hT.1.1 hT.1.2.1 hT.2.2.2.2.2.2.2.2.2.2.2.2.2.2.2.2.2.2.2.2.2.2.2.2.2.2.2.2.2.2.2.1 hW hl hI hsix hL (by omega) (by omega) hK
    by_cases h31 : c = 31
    · refine xV_tin (tgt := 1363) dL_law_40 h31 (by decide) (by decide) rfl (by decide) ?_
      exact Lw_both hT.1.1 hT.1.2.1 hT.2.2.2.2.2.2.2.2.2.2.2.2.2.2.2.2.2.2.2.2.2.2.2.2.2.2.2.2.2.2.2.2.1 hW hl hI hsix hL (by omega) (by omega) hK
    by_cases h32 : c = 32
    · refine xV_tin (tgt := 1388) dL_law_40 h32 (by decide) (by decide) rfl (by decide) ?_
      exact Lw_mean hT.1.1 hT.1.2.1 hT.2.2.2.2.2.2.2.2.2.2.2.2.2.2.2.2.2.2.2.2.2.2.2.2.2.2.2.2.2.2.2.2.2.1 hW hl hI hsix hL (by omega) (by omega) hK
    by_cases h33 : c = 33
    · refine xV_tin (tgt := 1437) dL_law_40 h33 (by decide) (by decide) rfl (by decide) ?_
      exact Lw_state hT.1.1 hT.1.2.1 hT.2.2.2.2.2.2.2.2.2.2.2.2.2.2.2.2.2.2.2.2.2.2.2.2.2.2.2.2.2.2.2.2.2.2.1 hW hl hI hsix hL (by omega) (by omega) hK
    by_cases h34 : c = 34
    · refine xV_tin (tgt := 1462) dL_law_40 h34 (by decide) (by decide) rfl (by decide) ?_
      exact Lw_draw hT.1.1 hT.1.2.1 hT.2.2.2.2.2.2.2.2.2.2.2.2.2.2.2.2.2.2.2.2.2.2.2.2.2.2.2.2.2.2.2.2.2.2.2.1 hW hl hI hsix hL (by omega) (by omega) hK
    by_cases h35 : c = 35
    · refine xV_tin (tgt := 1515) dL_law_40 h35 (by decide) (by decide) rfl (by decide) ?_
      exact Lw_match hT.1.1 hT.1.2.1 hT.2.2.2.2.2.2.2.2.2.2.2.2.2.2.2.2.2.2.2.2.2.2.2.2.2.2.2.2.2.2.2.2.2.2.2.2.1 hW hl hI hsix hL (by omega) (by omega) hK
    by_cases h36 : c = 36
    · refine xV_tin (tgt := 1540) dL_law_40 h36 (by decide) (by decide) rfl (by decide) ?_
      exact Lw_note hT.1.1 hT.1.2.1 hT.2.2.2.2.2.2.2.2.2.2.2.2.2.2.2.2.2.2.2.2.2.2.2.2.2.2.2.2.2.2.2.2.2.2.2.2.2.1 hW hl hI hsix hL (by omega) (by omega) hK
    by_cases h37 : c = 37
    · refine xV_tin (tgt := 1577) dL_law_40 h37 (by decide) (by decide) rfl (by decide) ?_
      exact Lw_against hT.1.1 hT.1.2.1 hT.2.2.2.2.2.2.2.2.2.2.2.2.2.2.2.2.2.2.2.2.2.2.2.2.2.2.2.2.2.2.2.2.2.2.2.2.2.2.1 hW hl hI hsix hL (by omega) (by omega) hK
    by_cases h38 : c = 38
    · refine xV_tin (tgt := 1614) dL_law_40 h38 (by decide) (by decide) rfl (by decide) ?_
      exact Lw_apart hT.1.1 hT.1.2.1 hT.2.2.2.2.2.2.2.2.2.2.2.2.2.2.2.2.2.2.2.2.2.2.2.2.2.2.2.2.2.2.2.2.2.2.2.2.2.2.2.1 hW hl hI hsix hL (by omega) (by omega) hK
    by_cases h39 : c = 39
    · refine xV_tin (tgt := 1651) dL_law_40 h39 (by decide) (by decide) rfl (by decide) ?_
      exact Lw_count hT.1.1 hT.1.2.1 hT.2.2.2.2.2.2.2.2.2.2.2.2.2.2.2.2.2.2.2.2.2.2.2.2.2.2.2.2.2.2.2.2.2.2.2.2.2.2.2.2 hW hl hI hsix hL (by omega) (by omega) hK
    refine xV_tout (tgt := 1676) dL_law_40 [(0 : Int32), (1 : Int32), (2 : Int32), (3 : Int32), (4 : Int32), (5 : Int32), (6 : Int32), (7 : Int32), (8 : Int32), (9 : Int32), (10 : Int32), (11 : Int32), (12 : Int32), (13 : Int32), (14 : Int32), (15 : Int32), (16 : Int32), (17 : Int32), (18 : Int32), (19 : Int32), (20 : Int32), (21 : Int32), (22 : Int32), (23 : Int32), (24 : Int32), (25 : Int32), (26 : Int32), (27 : Int32), (28 : Int32), (29 : Int32), (30 : Int32), (31 : Int32), (32 : Int32), (33 : Int32), (34 : Int32), (35 : Int32), (36 : Int32), (37 : Int32), (38 : Int32), (39 : Int32)] 40 (by decide) (by decide) (by simp only [List.mem_cons, List.not_mem_nil, or_false]; rintro v (rfl | rfl | rfl | rfl | rfl | rfl | rfl | rfl | rfl | rfl | rfl | rfl | rfl | rfl | rfl | rfl | rfl | rfl | rfl | rfl | rfl | rfl | rfl | rfl | rfl | rfl | rfl | rfl | rfl | rfl | rfl | rfl | rfl | rfl | rfl | rfl | rfl | rfl | rfl | rfl) <;> assumption) (by decide) ?_
    exact hK X n k hx hm out hW hl (by omega) (by omega) (hT.1.2.2 _ _ hI)
