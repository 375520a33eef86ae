/-! ===== shapes, shape ===== -/
theorem lA_ok {z K : Nat} (hz : 20 ≤ z) {W : Nat → Int} {t : Int} {fo : Nat → Nat} {fields ties : Int32} {worth forces many : Nat → Int32} {codes : Nat → Nat → Int32} (hX : SX K W t fo fields ties worth forces many codes) {s i : Nat} (hs : s < 2) (hi : i < ns K (fo s)) : F4_leastAlike z (codes s i) fields worth = some (i3 (ls K W (cd K (fo s) i) : Nat)) := by
  obtain ⟨hV, hfo, rfl, rfl, hw, -, -, hc⟩ := hX
  rw [hc s i hs hi]
  exact (F4_leastAlike_ok hz hV (cl_mem.mp (cd_mem hi)).1 hw).1
theorem ls_lt {K f i : Nat} {W : Nat → Int} {t : Int} (hV : Vd K W t) (hf : f ≤ 7) (hi : i < ns K f) : ls K W (cd K f i) < 4096 := by
  have h1 := (cl_mem.mp (ls_mem hV.1 hV.2.1 hf W (cd_mem hi))).1
  have h2 := pow8 hV.2.1
  omega
theorem shapeFirst_ok {z K : Nat} (hz : 200 ≤ z) {W : Nat → Int} {t : Int} {fo : Nat → Nat} {fields ties : Int32} {worth forces many : Nat → Int32} {codes : Nat → Nat → Int32} (hX : SX K W t fo fields ties worth forces many codes) {s i : Nat} (hs : s < 2) (hi : i < ns K (fo s)) : F4_shapeFirst z (i3 s) (i3 i) fields worth many codes = some (i3 (li K W (fo s) i : Nat)) := by
  have hV := hX.1
  have n0 := ns_bd hV (hX.2.1 s hs)
  unfold F4_shapeFirst
  simp (disch := omega) only [xg_in, i3_xnN]
  rw [lA_ok (by omega) hX hs hi]
  simp only [Option.bind_some]
  rw [F4_numberOf_ok hX hs (by omega), (li_ok hV.1 hV.2.1 (hX.2.1 s hs) hi).2.2]
  rfl
/-- how many are of one shape with the i-th -/
def shN (K : Nat) (W : Nat → Int) (f i : Nat) : Nat := cf (fun j => decide (li K W f i = li K W f j)) (ns K f)
theorem shapeSize_ok {z K : Nat} (hz : 200 ≤ z) {W : Nat → Int} {t : Int} {fo : Nat → Nat} {fields ties : Int32} {worth forces many : Nat → Int32} {codes : Nat → Nat → Int32} (hX : SX K W t fo fields ties worth forces many codes) {s i : Nat} (hs : s < 2) (hi : i < ns K (fo s)) : F4_shapeSize z (i3 s) (i3 i) fields worth many codes = some (i3 (shN K W (fo s) i : Nat)) := by
  have hV := hX.1
  have n0 := ns_bd hV (hX.2.1 s hs)
  have hm := hX.2.2.2.2.2.2.1 s hs
  have li4 := ls_lt hV (hX.2.1 s hs) hi
  have loop : ∀ (rem w k : Nat), k + rem = ns K (fo s) → rem < w → F4_shapeSize_b19 z w (i3 s) (i3 (ls K W (cd K (fo s) i) : Nat)) (i3 (cf (fun j => decide (li K W (fo s) i = li K W (fo s) j)) k : Nat)) (i3 k) fields worth many codes = some (i3 (shN K W (fo s) i : Nat)) := by
    intro rem
    induction rem with
    | zero =>
      intro w k hk hw
      obtain ⟨w, rfl⟩ : ∃ w', w = w' + 1 := ⟨w - 1, by omega⟩
      obtain rfl : k = ns K (fo s) := by omega
      unfold F4_shapeSize_b19
      simp (disch := omega) only [xg_in, i3_xnN]
      rw [hm, if_pos (by rw [i3_le (by omega) (by omega) (by omega) (by omega)]; omega)]
      rfl
    | succ rem ih =>
      intro w k hk hw
      obtain ⟨w, rfl⟩ : ∃ w', w = w' + 1 := ⟨w - 1, by omega⟩
      have hk' : k < ns K (fo s) := by omega
      have lk4 := ls_lt hV (hX.2.1 s hs) hk'
      have hll := li_ls hV.1 hV.2.1 (hX.2.1 s hs) (W := W) hi hk'
      have ih' : F4_shapeSize_b19 z w (i3 s) (i3 (ls K W (cd K (fo s) i) : Nat)) (i3 ((cf (fun j => decide (li K W (fo s) i = li K W (fo s) j)) k + (if decide (li K W (fo s) i = li K W (fo s) k) then 1 else 0) : Nat) : Int)) (i3 (k + 1 : Nat)) fields worth many codes = _ := ih w (k + 1) (by omega) (by omega)
      unfold F4_shapeSize_b19
      simp (disch := omega) only [xg_in, i3_xnN]
      rw [hm, if_neg (show ¬ i3 (ns K (fo s) : Nat) ≤ i3 (k : Int) by rw [i3_le (by omega) (by omega) (by omega) (by omega)]; omega), lA_ok (by omega) hX hs hk']
      simp only [Option.bind_some]
      unfold F4_shapeSize_b50
      rw [show i3 (k : Int) + 1 = i3 ((k + 1 : Nat) : Int) from by rw [i3_l1, i3_add]; rfl]
      by_cases q : li K W (fo s) i = li K W (fo s) k
      · rw [if_pos (show i3 (ls K W (cd K (fo s) k) : Nat) = i3 (ls K W (cd K (fo s) i) : Nat) by rw [hll.mp q])]
        rw [decide_eq_true q, if_pos rfl] at ih'
        rw [i3_l1, i3_add]
        exact ih'
      · rw [if_neg (show ¬ i3 (ls K W (cd K (fo s) k) : Nat) = i3 (ls K W (cd K (fo s) i) : Nat) by rw [i3_eq (by omega) (by omega) (by omega) (by omega)]; exact fun e => q (hll.mpr (by omega)))]
        rw [decide_eq_false q, if_neg (by decide)] at ih'
        exact ih'
  unfold F4_shapeSize
  simp (disch := omega) only [xg_in, i3_xnN]
  rw [lA_ok (by omega) hX hs hi]
  simp only [Option.bind_some]
  exact loop (ns K (fo s)) z 0 (by omega) (by omega)
theorem alike_ok {z K : Nat} (hz : 200 ≤ z) {W : Nat → Int} {t : Int} {fo : Nat → Nat} {told many eights gains : Nat → Int32} (hM : SM K W t fo told many eights gains) {fives : Nat → Int32} (hF : FVr fives) {s i : Nat} (hs : s < 2) (hi : i < ns K (fo s)) : F10_alike z (i3 s) (i3 i) told many eights fives = some (i3 (shN K W (fo s) i : Nat)) := by
  have hV := hM.1
  have n0 := ns_bd hV (hM.2.1 s hs)
  have hm := hM.2.2.2.2.2.2.1 s hs
  have loop : ∀ (rem w k : Nat), k + rem = ns K (fo s) → rem < w → F10_alike_b5 z w (i3 s) (i3 i) (i3 (cf (fun j => decide (li K W (fo s) i = li K W (fo s) j)) k : Nat)) (i3 k) told many eights fives = some (i3 (shN K W (fo s) i : Nat)) := by
    intro rem
    induction rem with
    | zero =>
      intro w k hk hw
      obtain ⟨w, rfl⟩ : ∃ w', w = w' + 1 := ⟨w - 1, by omega⟩
      obtain rfl : k = ns K (fo s) := by omega
      unfold F10_alike_b5
      simp (disch := omega) only [xg_in, i3_xnN]
      rw [hm, if_pos (by rw [i3_le (by omega) (by omega) (by omega) (by omega)]; omega)]
      rfl
    | succ rem ih =>
      intro w k hk hw
      obtain ⟨w, rfl⟩ : ∃ w', w = w' + 1 := ⟨w - 1, by omega⟩
      have hk' : k < ns K (fo s) := by omega
      have ih' : F10_alike_b5 z w (i3 s) (i3 i) (i3 ((cf (fun j => decide (li K W (fo s) i = li K W (fo s) j)) k + (if decide (li K W (fo s) i = li K W (fo s) k) then 1 else 0) : Nat) : Int)) (i3 (k + 1 : Nat)) told many eights fives = _ := ih w (k + 1) (by omega) (by omega)
      unfold F10_alike_b5
      simp (disch := omega) only [xg_in, i3_xnN]
      rw [hm, if_neg (show ¬ i3 (ns K (fo s) : Nat) ≤ i3 (k : Int) by rw [i3_le (by omega) (by omega) (by omega) (by omega)]; omega), areLike_ok (by omega) hM hF hs hi hk', lkb_li hV.1 hV.2.1 (hM.2.1 s hs) hi hk']
      simp only [Option.bind_some]
      unfold F10_alike_b33
      rw [show i3 (k : Int) + 1 = i3 ((k + 1 : Nat) : Int) from by rw [i3_l1, i3_add]; rfl]
      by_cases q : li K W (fo s) i = li K W (fo s) k
      · rw [decide_eq_true q, if_pos (show true = true from rfl)] at ih' ⊢
        rw [if_neg n10, i3_l1, i3_add]
        exact ih'
      · rw [decide_eq_false q, if_neg (show ¬ false = true by decide)] at ih' ⊢
        rw [if_pos rfl, i3_l0, i3_add, Int.add_zero]
        exact ih'
  exact loop (ns K (fo s)) z 0 (by omega) (by omega)
theorem firstLike_ok {z K : Nat} (hz : 200 ≤ z) {W : Nat → Int} {t : Int} {fo : Nat → Nat} {told many eights gains : Nat → Int32} (hM : SM K W t fo told many eights gains) {fives : Nat → Int32} (hF : FVr fives) {s i : Nat} (hs : s < 2) (hi : i < ns K (fo s)) : F10_firstLike z (i3 s) (i3 i) told eights fives = some (i3 (li K W (fo s) i : Nat)) := by
  have hV := hM.1
  have n0 := ns_bd hV (hM.2.1 s hs)
  have lo := li_ok hV.1 hV.2.1 (hM.2.1 s hs) (W := W) hi
  have ll := li_le hV.1 hV.2.1 (hM.2.1 s hs) (W := W) hi
  have loop : ∀ (rem w k : Nat), k + rem = li K W (fo s) i → rem < w → F10_firstLike_b2 z w (i3 s) (i3 i) (i3 k) told eights fives = some (i3 (li K W (fo s) i : Nat)) := by
    intro rem
    induction rem with
    | zero =>
      intro w k hk hw
      obtain ⟨w, rfl⟩ : ∃ w', w = w' + 1 := ⟨w - 1, by omega⟩
      have hk0 : k = li K W (fo s) i := by omega
      unfold F10_firstLike_b2
      rw [hk0, areLike_ok (by omega) hM hF hs hi lo.1, lkb_li hV.1 hV.2.1 (hM.2.1 s hs) hi lo.1, ll.2, decide_eq_true rfl]
      simp only [Option.bind_some, if_true]
      rw [if_neg n10]
    | succ rem ih =>
      intro w k hk hw
      obtain ⟨w, rfl⟩ : ∃ w', w = w' + 1 := ⟨w - 1, by omega⟩
      have hk' : k < ns K (fo s) := by omega
      have lk := li_le hV.1 hV.2.1 (hM.2.1 s hs) (W := W) hk'
      unfold F10_firstLike_b2
      rw [areLike_ok (by omega) hM hF hs hi hk', lkb_li hV.1 hV.2.1 (hM.2.1 s hs) hi hk', decide_eq_false (by omega)]
      simp only [Option.bind_some]
      rw [if_neg (show ¬ false = true by decide), if_pos rfl, show i3 (k : Int) + 1 = i3 ((k + 1 : Nat) : Int) from by rw [i3_l1, i3_add]; rfl]
      exact ih w (k + 1) (by omega) (by omega)
  exact loop (li K W (fo s) i) z 0 (by omega) (by omega)
/-- how many shapes begin below m -/
def bgn (K : Nat) (W : Nat → Int) (f m : Nat) : Nat := cf (fun j => decide (li K W f j = j)) m
theorem begun_ok {z K : Nat} (hz : 200 ≤ z) {W : Nat → Int} {t : Int} {fo : Nat → Nat} {told many eights gains : Nat → Int32} (hM : SM K W t fo told many eights gains) {fives : Nat → Int32} (hF : FVr fives) {s i : Nat} (hs : s < 2) (hi : i < ns K (fo s)) : F10_begun z (i3 s) (i3 i) told eights fives = some (i3 (bgn K W (fo s) (i + 1) : Nat)) := by
  have hV := hM.1
  have n0 := ns_bd hV (hM.2.1 s hs)
  have loop : ∀ (rem w k : Nat), k + rem = i + 1 → rem < w → F10_begun_b5 z w (i3 s) (i3 i) (i3 (bgn K W (fo s) k : Nat)) (i3 k) told eights fives = some (i3 (bgn K W (fo s) (i + 1) : Nat)) := by
    intro rem
    induction rem with
    | zero =>
      intro w k hk hw
      obtain ⟨w, rfl⟩ : ∃ w', w = w' + 1 := ⟨w - 1, by omega⟩
      obtain rfl : k = i + 1 := by omega
      unfold F10_begun_b5
      rw [if_pos (by rw [i3_lt (by omega) (by omega) (by omega) (by omega)]; omega)]
    | succ rem ih =>
      intro w k hk hw
      obtain ⟨w, rfl⟩ : ∃ w', w = w' + 1 := ⟨w - 1, by omega⟩
      have hk' : k < ns K (fo s) := by omega
      have lk := li_le hV.1 hV.2.1 (hM.2.1 s hs) (W := W) hk'
      have ih' : F10_begun_b5 z w (i3 s) (i3 i) (i3 ((bgn K W (fo s) k + (if decide (li K W (fo s) k = k) then 1 else 0) : Nat) : Int)) (i3 (k + 1 : Nat)) told eights fives = _ := ih w (k + 1) (by omega) (by omega)
      unfold F10_begun_b5
      rw [if_neg (by rw [i3_lt (by omega) (by omega) (by omega) (by omega)]; omega), firstLike_ok hz hM hF hs hk']
      simp only [Option.bind_some]
      unfold F10_begun_b29
      rw [show i3 (k : Int) + 1 = i3 ((k + 1 : Nat) : Int) from by rw [i3_l1, i3_add]; rfl]
      by_cases q : li K W (fo s) k = k
      · rw [if_pos (show i3 (li K W (fo s) k : Nat) = i3 (k : Nat) by rw [q]), i3_l1, i3_add]
        rw [decide_eq_true q, if_pos rfl] at ih'
        exact ih'
      · rw [if_neg (show ¬ i3 (li K W (fo s) k : Nat) = i3 (k : Nat) by rw [i3_eq (by omega) (by omega) (by omega) (by omega)]; omega), i3_l0, i3_add, Int.add_zero]
        rw [decide_eq_false q, if_neg (by decide)] at ih'
        exact ih'
  exact loop (i + 1) z 0 (by omega) (by omega)
theorem shapesUpTo_ok {z K : Nat} (hz : 200 ≤ z) {W : Nat → Int} {t : Int} {fo : Nat → Nat} {fields ties : Int32} {worth forces many : Nat → Int32} {codes : Nat → Nat → Int32} (hX : SX K W t fo fields ties worth forces many codes) {s i : Nat} (hs : s < 2) (hi : i < ns K (fo s)) : F4_shapesUpTo z (i3 s) (i3 i) fields worth many codes = some (i3 (bgn K W (fo s) (i + 1) : Nat)) := by
  have hV := hX.1
  have n0 := ns_bd hV (hX.2.1 s hs)
  have hm := hX.2.2.2.2.2.2.1 s hs
  have loop : ∀ (rem w k : Nat), k + rem = i + 1 → rem < w → F4_shapesUpTo_b5 z w (i3 s) (i3 i) (i3 (bgn K W (fo s) k : Nat)) (i3 k) fields worth many codes = some (i3 (bgn K W (fo s) (i + 1) : Nat)) := by
    intro rem
    induction rem with
    | zero =>
      intro w k hk hw
      obtain ⟨w, rfl⟩ : ∃ w', w = w' + 1 := ⟨w - 1, by omega⟩
      obtain rfl : k = i + 1 := by omega
      unfold F4_shapesUpTo_b5
      rw [if_pos (by rw [i3_lt (by omega) (by omega) (by omega) (by omega)]; omega)]
    | succ rem ih =>
      intro w k hk hw
      obtain ⟨w, rfl⟩ : ∃ w', w = w' + 1 := ⟨w - 1, by omega⟩
      have hk' : k < ns K (fo s) := by omega
      have lk := li_le hV.1 hV.2.1 (hX.2.1 s hs) (W := W) hk'
      have lo := li_ok hV.1 hV.2.1 (hX.2.1 s hs) (W := W) hk'
      have l4 := ls_lt hV (hX.2.1 s hs) hk'
      have c4 := cd_lt hV.2.1 hk'
      have ih' : F4_shapesUpTo_b5 z w (i3 s) (i3 i) (i3 ((bgn K W (fo s) k + (if decide (li K W (fo s) k = k) then 1 else 0) : Nat) : Int)) (i3 (k + 1 : Nat)) fields worth many codes = _ := ih w (k + 1) (by omega) (by omega)
      unfold F4_shapesUpTo_b5
      rw [if_neg (show ¬ i3 (i : Int) < i3 (k : Int) by rw [i3_lt (by omega) (by omega) (by omega) (by omega)]; omega)]
      simp (disch := omega) only [xg_in, i3_xnN]
      rw [hm, if_neg (show ¬ i3 (ns K (fo s) : Nat) ≤ i3 (k : Int) by rw [i3_le (by omega) (by omega) (by omega) (by omega)]; omega), lA_ok (by omega) hX hs hk', hX.2.2.2.2.2.2.2 s k hs hk']
      simp only [Option.bind_some]
      unfold F4_shapesUpTo_b50
      rw [show i3 (k : Int) + 1 = i3 ((k + 1 : Nat) : Int) from by rw [i3_l1, i3_add]; rfl]
      by_cases q : li K W (fo s) k = k
      · rw [if_pos (show i3 (ls K W (cd K (fo s) k) : Nat) = i3 (cd K (fo s) k : Nat) by rw [← lo.2.1, q]), i3_l1, i3_add]
        rw [decide_eq_true q, if_pos rfl] at ih'
        exact ih'
      · rw [if_neg (show ¬ i3 (ls K W (cd K (fo s) k) : Nat) = i3 (cd K (fo s) k : Nat) by
          rw [i3_eq (by omega) (by omega) (by omega) (by omega)]
          exact fun e => q (cd_inj lo.1 hk' (by rw [lo.2.1]; omega)))]
        rw [decide_eq_false q, if_neg (by decide)] at ih'
        exact ih'
  exact loop (i + 1) z 0 (by omega) (by omega)
theorem call_shapes {z K : Nat} (hz : 1000 ≤ z) {W : Nat → Int} {t : Int} {fo : Nat → Nat} {fields ties : Int32} {worth forces many : Nat → Int32} {codes : Nat → Nat → Int32} (hX : SX K W t fo fields ties worth forces many codes) {told manym eights gains : Nat → Int32} (hM : SM K W t fo told manym eights gains) {fives : Nat → Int32} (hF : FVr fives) (x1 thrown : Int32) : ∃ v, F9_shapes z x1 fields worth many codes = some v ∧ F10_shapes z x1 thrown told manym eights fives = some (v, 0) := by
  obtain ⟨a, rfl, h1, h2⟩ := i3_ex x1
  unfold F9_shapes F10_shapes
  rw [isSide9 a h1 h2, isSide10 a h1 h2]
  simp only [Option.bind_some]
  by_cases e : a = 0 ∨ a = 1
  · obtain ⟨s, hs, rfl⟩ : ∃ s : Nat, s < 2 ∧ a = s := ⟨a.toNat, by omega, by omega⟩
    have n0 := ns_bd hX.1 (hX.2.1 s hs)
    rw [if_pos e, if_neg n10, if_neg n10]
    simp (disch := omega) only [xg_in, i3_xnN]
    rw [hX.2.2.2.2.2.2.1 s hs, hM.2.2.2.2.2.2.1 s hs, show i3 ((ns K (fo s) : Nat) : Int) - 1 = i3 ((ns K (fo s) - 1 : Nat) : Int) from by rw [i3_l1, i3_sub]; congr 1; omega, shapesUpTo_ok (by omega) hX hs (show ns K (fo s) - 1 < ns K (fo s) by omega), begun_ok (by omega) hM hF hs (show ns K (fo s) - 1 < ns K (fo s) by omega)]
    exact ⟨_, rfl, rfl⟩
  · rw [if_neg e]
    exact ⟨-1, rfl, rfl⟩
theorem call_shape {z K : Nat} (hz : 1000 ≤ z) {W : Nat → Int} {t : Int} {fo : Nat → Nat} {fields ties : Int32} {worth forces many : Nat → Int32} {codes : Nat → Nat → Int32} (hX : SX K W t fo fields ties worth forces many codes) {told manym eights gains : Nat → Int32} (hM : SM K W t fo told manym eights gains) {fives : Nat → Int32} (hF : FVr fives) (x1 x2 x3 thrown : Int32) : ∃ v, F9_shape z x1 x2 x3 fields worth many codes = some v ∧ F10_shape z x1 x2 x3 thrown told manym eights fives = some (v, 0) := by
  obtain ⟨a, rfl, h1, h2⟩ := i3_ex x1
  obtain ⟨b, rfl, h3, h4⟩ := i3_ex x2
  obtain ⟨c, rfl, h5, h6⟩ := i3_ex x3
  unfold F9_shape F10_shape
  by_cases e1 : isp K fo a b
  · obtain ⟨s, i, rfl, rfl, hs, hi⟩ := e1
    have n0 := ns_bd hX.1 (hX.2.1 s hs)
    rw [isSplit4_yes hX hs hi, isSplit10_yes hM hs hi, i3_l0, i3_l1, i3_l2, within10 h5 h6 (by omega) (by omega) (by omega) (by omega), shapeSize_ok (by omega) hX hs hi, shapeFirst_ok (by omega) hX hs hi, shapesUpTo_ok (by omega) hX hs hi, alike_ok (by omega) hM hF hs hi, firstLike_ok (by omega) hM hF hs hi, begun_ok (by omega) hM hF hs hi]
    simp only [Option.bind_some]
    rw [if_neg (show ¬ i3 1 = i3 0 from n10), if_neg (show ¬ i3 1 = i3 0 from n10)]
    rcases (show c = 0 ∨ c = 1 ∨ c = 2 ∨ ¬ (0 ≤ c ∧ c ≤ 2) by omega) with rfl | rfl | rfl | q
    · exact ⟨_, rfl, rfl⟩
    · exact ⟨_, rfl, rfl⟩
    · exact ⟨_, rfl, rfl⟩
    · rw [if_neg (show ¬ i3 c = i3 0 by rw [i3_eq h5 h6 (by omega) (by omega)]; omega), if_neg (show ¬ i3 c = i3 1 by rw [i3_eq h5 h6 (by omega) (by omega)]; omega), if_neg (show ¬ i3 c = i3 2 by rw [i3_eq h5 h6 (by omega) (by omega)]; omega), if_neg q]
      exact ⟨_, rfl, rfl⟩
  · rw [isSplit4_no hX h1 h2 h3 h4 e1, isSplit10_no hM h1 h2 h3 h4 e1]
    exact ⟨-1, rfl, rfl⟩
