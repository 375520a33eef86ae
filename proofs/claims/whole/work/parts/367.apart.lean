/-! ===== call: apart ===== -/
/-- the weight of a split in a plan -/
def wof (f : Nat → Nat) (W : Nat → Int) : Nat → Nat → Int
  | 0, _ => 0
  | n + 1, i => if f n = i then W n else wof f W n i
theorem wof_in {f : Nat → Nat} {W : Nat → Int} {n k i : Nat} (hk : k < n) (hf : f k = i) (hd : ∀ a b, a < n → b < n → a ≠ b → f a ≠ f b) : wof f W n i = W k := by
  induction n with
  | zero => omega
  | succ n ih =>
    show (if f n = i then W n else wof f W n i) = W k
    by_cases q : k = n
    · subst q
      rw [if_pos hf]
    · rw [if_neg (by rw [← hf]; exact hd n k (by omega) (by omega) (by omega))]
      exact ih (by omega) (fun a b ha hb => hd a b (by omega) (by omega))
theorem wof_out {f : Nat → Nat} {W : Nat → Int} {n i : Nat} (h : ∀ k, k < n → f k ≠ i) : wof f W n i = 0 := by
  induction n with
  | zero => rfl
  | succ n ih =>
    show (if f n = i then W n else wof f W n i) = 0
    rw [if_neg (h n (by omega))]
    exact ih (fun k hk => h k (by omega))
theorem wof_bd {f : Nat → Nat} {W : Nat → Int} {n i : Nat} (h : ∀ k, k < n → 1 ≤ W k ∧ W k ≤ 99) : 0 ≤ wof f W n i ∧ wof f W n i ≤ 99 := by
  induction n with
  | zero => exact ⟨Int.le_refl _, by show (0 : Int) ≤ 99; omega⟩
  | succ n ih =>
    show 0 ≤ (if f n = i then W n else wof f W n i) ∧ (if f n = i then W n else wof f W n i) ≤ 99
    by_cases q : f n = i
    · rw [if_pos q]; have := h n (by omega); omega
    · rw [if_neg q]; exact ih (fun k hk => h k (by omega))
theorem F3_weightOf_ok {z K : Nat} (hz : 20 ≤ z) {W : Nat → Int} {t : Int} {fo pN : Nat → Nat} (hV : Vd K W t) (hfo : ∀ s, s < 2 → fo s ≤ 7) {pI : Nat → Nat → Nat} {pW : Nat → Nat → Int} {pList pWei : Nat → Nat → Int32} {pMany pAll told : Nat → Int32} (hP : PLr K fo pN pI pW pList pWei pMany pAll told) {s i : Nat} (hs : s < 2) (hi : i < 1000) : F3_weightOf z (i3 i) (pList s) (pWei s) (pMany s) = some (i3 (wof (pI s) (pW s) (pN s) i)) := by
  obtain ⟨p1, p2, p3, p4, p5, p6⟩ := hP s hs
  have n0 := ns_bd hV (hfo s hs)
  obtain ⟨r, hr⟩ := plr_ex (pI s) (pN s) i
  unfold F3_weightOf
  rw [p2, F3_placeOf_ok (z := z) (by omega) p1 (fun k hk => ⟨(p5 k hk).2.2.2.1, by have := (p5 k hk).1; omega⟩) (by omega) hr]
  simp only [Option.bind_some]
  rcases hr with ⟨k, k1, k2, rfl, k3⟩ | ⟨k1, rfl⟩
  · rw [if_neg (by rw [i3_m1, i3_eq (by omega) (by omega) (by omega) (by omega)]; omega)]
    simp (disch := omega) only [xg_in, i3_xnN]
    rw [(p5 k k1).2.2.2.2.1, wof_in k1 k2 p6]
  · rw [if_pos rfl, wof_out k1]
    rfl
/-- how far apart -/
def iab (a : Int) : Int := if 0 ≤ a then a else 0 - a
theorem call_apart {z K : Nat} (hz : 1000 ≤ z) {W : Nat → Int} {t : Int} {fo : Nat → Nat} {fields ties : Int32} {worth forces many : Nat → Int32} {codes : Nat → Nat → Int32} (hX : SX K W t fo fields ties worth forces many codes) {told manym eights gains : Nat → Int32} (hM : SM K W t fo told manym eights gains) {pN : Nat → Nat} {pI : Nat → Nat → Nat} {pW : Nat → Nat → Int} {pList pWei : Nat → Nat → Int32} {pMany pAll : Nat → Int32} (hP : PLr K fo pN pI pW pList pWei pMany pAll told) {nN : Nat → Nat} {nS : Nat → Nat → Nat} {ntSeen : Nat → Nat → Int32} {ntMany notes seen : Nat → Int32} (hN : NTr K fo nN nS ntSeen ntMany notes seen) (x1 x2 thrown : Int32) : ∃ v, F9_apart z x1 x2 many pList pWei pMany pAll ntSeen ntMany = some v ∧ F10_apart z x1 x2 thrown told manym eights notes seen = some (v, 0) := by
  unfold F9_apart F10_apart
  rcases hasPlan_ok hP x1 with ⟨s, hs, rfl, g1, e9, e10⟩ | ⟨e9, e10⟩
  · obtain ⟨b, rfl, h3, h4⟩ := i3_ex x2
    obtain ⟨p1, p2, p3, p4, p5, p6⟩ := hP s hs
    obtain ⟨c1, c2, c3, c4⟩ := hN s hs
    have n0 := ns_bd hX.1 (hX.2.1 s hs)
    have wb := wsum_bd hP hs (pN s) (Nat.le_refl _)
    have hwi := within10' h3 h4 (l := 0) (h := 1) (by omega) (by omega) (by omega) (by omega) (L := 0) (H := 1) rfl rfl
    rw [e9, e10]
    simp (disch := omega) only [xg_in, i3_xnN, Option.bind_some]
    rw [if_neg n10, if_neg n10, c2, c3, isPart9 b h3 h4]
    by_cases q0 : nN s = 0
    · have d : i3 (nN s : Int) = 0 := by rw [q0]; rfl
      rw [if_pos d, if_pos d]
      exact ⟨_, rfl, rfl⟩
    · have d : ¬ i3 (nN s : Int) = 0 := by rw [i3_l0, i3_eq (by omega) (by omega) (by omega) (by omega)]; omega
      rw [if_neg d, if_neg d]
      by_cases qb : b = 0 ∨ b = 1
      · rw [if_pos qb, hwi.1 (by omega)]
        simp only [Option.bind_some]
        rw [if_neg n10, if_neg n10]
        have eb : Nat.blt s 2 = true := by rcases two_cases hs with rfl | rfl <;> rfl
        have loop : ∀ (rem w m : Nat) (x : Int), m + rem = ns K (fo s) → rem < w → 0 ≤ x → x ≤ 100000 → ∃ v, F9_apart_b45 z w (i3 s) (i3 b) s (i3 x) (i3 m) many pList pWei pMany pAll ntSeen ntMany = some v ∧ F10_apart_b38 z w (i3 s) (i3 b) (i3 x) (i3 m) 0 told manym eights notes seen = some (v, 0) := by
          intro rem
          induction rem with
          | zero =>
            intro w m x hm hw hx0 hx1
            obtain ⟨w, rfl⟩ : ∃ w', w = w' + 1 := ⟨w - 1, by omega⟩
            have d : i3 (ns K (fo s) : Nat) ≤ i3 (m : Int) := by rw [i3_le (by omega) (by omega) (by omega) (by omega)]; omega
            have hAB := mul_bd (a := (nN s : Int)) (b := sm (pN s) (pW s)) (A := 40) (B := 800) (by omega) (by omega) (by omega) (by omega)
            have hpos : 0 < (nN s : Int) * sm (pN s) (pW s) := Int.mul_pos (by omega) (by omega)
            unfold F9_apart_b45 F10_apart_b38
            simp (disch := omega) only [xg_in, i3_xnN]
            rw [eb, hX.2.2.2.2.2.2.1 s hs, hM.2.2.2.2.2.2.1 s hs, if_pos d, if_pos d]
            unfold F9_apart_b117 F10_apart_b120
            simp (disch := omega) only [xg_in, i3_xnN]
            rw [eb, c2, c3, p4, F10_weights_ok (by omega) hP hs]
            simp only [Option.bind_some]
            rw [i3_mul, i3_toI6 (by omega) (by omega), i3_toI6 (by omega) (by omega), F9_lowest_ok (by omega) (by omega) (by omega) hpos (by omega) qb, F10_term_ok (by omega) (by omega) (by omega) hpos (by omega) qb]
            exact ⟨_, rfl, rfl⟩
          | succ rem ih =>
            intro w m x hm hw hx0 hx1
            obtain ⟨w, rfl⟩ : ∃ w', w = w' + 1 := ⟨w - 1, by omega⟩
            have d : ¬ i3 (ns K (fo s) : Nat) ≤ i3 (m : Int) := by rw [i3_le (by omega) (by omega) (by omega) (by omega)]; omega
            obtain ⟨f1, f2, f3⟩ := c4 m (by omega)
            have wbd := wof_bd (f := pI s) (i := m) (n := pN s) (W := pW s) (fun k hk => ⟨(p5 k hk).2.1, (p5 k hk).2.2.1⟩)
            have a1 := mul_bd (a := (nS s m : Int)) (b := sm (pN s) (pW s)) (A := 40) (B := 800) (by omega) (by omega) (by omega) (by omega)
            have a2 := mul_bd (a := wof (pI s) (pW s) (pN s) m) (b := (nN s : Int)) (A := 99) (B := 40) (by omega) (by omega) (by omega) (by omega)
            have e128 : (128 : Int32) * i3 (s : Int) + i3 (m : Int) = i3 ((128 * s + m : Nat) : Int) := by
              rw [i3_l128, i3_mul, i3_add]; congr 1
            obtain ⟨r, hr⟩ := plr_ex (pI s) (pN s) m
            unfold F9_apart_b45 F10_apart_b38
            rw [F10_entryOf_ok (z := z) (by omega) hM hP hs (by omega) hr, F10_weights_ok (by omega) hP hs, F3_weightOf_ok (by omega) hX.1 hX.2.1 hP hs (by omega), e128]
            simp (disch := omega) only [xg_in, i3_xnN, Option.bind_some]
            rw [eb, hX.2.2.2.2.2.2.1 s hs, hM.2.2.2.2.2.2.1 s hs, if_neg d, if_neg d, f2, f3, c2, p4, i3_mul, i3_mul, i3_sub]
            have en : i3 (m : Int) + 1 = i3 ((m + 1 : Nat) : Int) := by rw [i3_l1, i3_add]; rfl
            have eab : ∀ y : Int, -100000 ≤ y → y ≤ 100000 → (if i3 x < (if 0 ≤ i3 y then i3 y else 0 - i3 y) then (if 0 ≤ i3 y then i3 y else 0 - i3 y) else i3 x) = i3 (if x < iab y then iab y else x) := by
              intro y y1 y2
              have ey : (if 0 ≤ i3 y then i3 y else 0 - i3 y) = i3 (iab y) := by
                unfold iab
                by_cases q : 0 ≤ y
                · rw [if_pos q, if_pos (by rw [i3_l0, i3_le (by omega) (by omega) (by omega) (by omega)]; exact q)]
                · rw [if_neg q, if_neg (by rw [i3_l0, i3_le (by omega) (by omega) (by omega) (by omega)]; exact q), i3_l0, i3_sub]
              have yb : 0 ≤ iab y ∧ iab y ≤ 100000 := by
                unfold iab
                by_cases q : 0 ≤ y
                · rw [if_pos q]; omega
                · rw [if_neg q]; omega
              rw [ey]
              by_cases q : x < iab y
              · rw [if_pos q, if_pos (by rw [i3_lt (by omega) (by omega) (by omega) (by omega)]; exact q)]
              · rw [if_neg q, if_neg (by rw [i3_lt (by omega) (by omega) (by omega) (by omega)]; exact q)]
            have ib : ∀ y : Int, -100000 ≤ y → y ≤ 100000 → 0 ≤ (if x < iab y then iab y else x) ∧ (if x < iab y then iab y else x) ≤ 100000 := by
              intro y y1 y2
              unfold iab
              by_cases q : 0 ≤ y
              · rw [if_pos q]; split <;> omega
              · rw [if_neg q]; split <;> omega
            have yb1 : -100000 ≤ (nS s m : Int) * sm (pN s) (pW s) - wof (pI s) (pW s) (pN s) m * (nN s : Int) := by omega
            have yb2 : (nS s m : Int) * sm (pN s) (pW s) - wof (pI s) (pW s) (pN s) m * (nN s : Int) ≤ 100000 := by omega
            obtain ⟨v, g9, g10⟩ := ih w (m + 1) _ (by omega) (by omega) (ib _ yb1 yb2).1 (ib _ yb1 yb2).2
            refine ⟨v, ?_, ?_⟩
            · rw [eab _ yb1 yb2, en]
              exact g9
            · have hfin : ∀ (v91 : Int32), v91 = i3 (wof (pI s) (pW s) (pN s) m) → F10_apart_b94 z (i3 s) (i3 b) (i3 x) (i3 m) (i3 ((nS s m : Int) * sm (pN s) (pW s))) v91 0 told manym eights notes seen (fun q0 q1 q2 q3 q4 q5 q6 q7 q8 q9 => F10_apart_b38 z w q0 q1 q2 q3 q4 q5 q6 q7 q8 q9) = some (v, 0) := by
                intro v91 h91
                unfold F10_apart_b94
                simp (disch := omega) only [xg_in, i3_xnN]
                rw [h91, c3, i3_mul, i3_sub, eab _ yb1 yb2, en]
                exact g10
              rcases hr with ⟨k, k1, k2, rfl, k3⟩ | ⟨k1, rfl⟩
              · rw [if_neg (by rw [i3_m1, i3_eq (by omega) (by omega) (by omega) (by omega)]; omega), F10_weightAt_ok hP hs k1]
                exact hfin _ (by rw [wof_in k1 k2 p6])
              · rw [if_pos rfl]
                exact hfin _ (by rw [wof_out k1]; rfl)
        exact loop (ns K (fo s)) z 0 0 (by omega) (by omega) (by omega) (by omega)
      · rw [if_neg qb, hwi.2 (by omega)]
        exact ⟨_, rfl, rfl⟩
  · rw [e9, e10]
    exact ⟨_, rfl, rfl⟩
