/-! ===== the reference lays splits and gains ===== -/
/-- what the filling of one field on gives -/
theorem F10_fills_ok {z K s : Nat} (hz : 20 ≤ z) (hs : s < 2) (hK1 : 1 ≤ K) (hK : K ≤ 4) {told : Nat → Int32} (ht : told 0 = i3 K) : ∀ (r w field l so m : Nat) (many eights : Nat → Int32), field + r + 1 = K → r < w → l ≤ 7 → so < 8 ^ field → many s = i3 m → m + (fil r l so).length ≤ 128 → ∃ many' eights', F10_fills z w (i3 s) (i3 field) (i3 l) (i3 so) told many eights = some (many', eights') ∧ many' = upd many s (i3 ((m + (fil r l so).length : Nat) : Int)) ∧ eights' = putL eights (128 * s + m) (fil r l so) := by
  intro r
  induction r with
  | zero =>
    intro w field l so m many eights hf hw hl hso hm hlen
    obtain ⟨w, rfl⟩ : ∃ w', w = w' + 1 := ⟨w - 1, by omega⟩
    have hlen' : m + 1 ≤ 128 := hlen
    refine ⟨upd many s (i3 ((m + 1 : Nat) : Int)), upd eights (128 * s + m) (i3 ((8 * so + l : Nat) : Int)), ?_, rfl, rfl⟩
    have e8 : so ≤ 8 ^ 3 := by
      have : 8 ^ field ≤ 8 ^ 3 := Nat.pow_le_pow_right (by decide) (by omega)
      omega
    have e128 : (128 : Int32) * i3 (s : Int) + i3 (m : Int) = i3 ((128 * s + m : Nat) : Int) := by
      rw [i3_l128, i3_mul, i3_add]; congr 1 <;> omega
    have ecode : (8 : Int32) * i3 (so : Int) + i3 (l : Int) = i3 ((8 * so + l : Nat) : Int) := by
      rw [i3_l8, i3_mul, i3_add]; congr 1 <;> omega
    unfold F10_fills F10_fills_e
    rw [ht, i3_l1, i3_sub, if_pos (by congr 1; omega)]
    simp (disch := omega) only [xg_in, i3_xnN, hm]
    rw [e128, ecode]
    simp (disch := omega) only [xg_in, i3_xnN]
    rw [i3_add]
    rfl
  | succ r ih =>
    intro w field l so m many eights hf hw hl hso hm hlen
    obtain ⟨w, rfl⟩ : ∃ w', w = w' + 1 := ⟨w - 1, by omega⟩
    have e8 : so < 8 ^ 3 := by
      have : 8 ^ field ≤ 8 ^ 3 := Nat.pow_le_pow_right (by decide) (by omega)
      omega
    have hso8 : ∀ n, n < 8 → 8 * so + n < 8 ^ (field + 1) := fun n hn => by
      rw [Nat.pow_succ]; omega
    -- the loop over what stands here
    have loop : ∀ (rem w2 n m2 : Nat) (many2 eights2 : Nat → Int32) (L : List Nat), n + rem = l + 1 → rem < w2 → many2 s = i3 m2 → (List.range' n rem).flatMap (fun n => fil r (l - n) (8 * so + n)) = L → m2 + L.length ≤ 128 → ∃ many' eights', F10_fills_b50 z w2 (i3 s) (i3 field) (i3 l) (i3 so) (i3 n) told many2 eights2 (fun q0 q1 q2 q3 q4 q5 q6 => F10_fills z w q0 q1 q2 q3 q4 q5 q6) = some (many', eights') ∧ many' = upd many2 s (i3 ((m2 + L.length : Nat) : Int)) ∧ eights' = putL eights2 (128 * s + m2) L := by
      intro rem
      induction rem with
      | zero =>
        intro w2 n m2 many2 eights2 L hn hw2 hm2 hL hlen2
        obtain ⟨w2, rfl⟩ : ∃ w', w2 = w' + 1 := ⟨w2 - 1, by omega⟩
        have eL : L = [] := hL.symm
        subst eL
        refine ⟨many2, eights2, ?_, ?_, rfl⟩
        · unfold F10_fills_b50
          rw [if_pos (by rw [i3_lt (by omega) (by omega) (by omega) (by omega)]; omega)]
        · funext j
          unfold upd
          split
          · rename_i h; rw [h, hm2]; rfl
          · rfl
      | succ rem ihl =>
        intro w2 n m2 many2 eights2 L hn hw2 hm2 hL hlen2
        obtain ⟨w2, rfl⟩ : ∃ w', w2 = w' + 1 := ⟨w2 - 1, by omega⟩
        have eL : L = fil r (l - n) (8 * so + n) ++ (List.range' (n + 1) rem).flatMap (fun n => fil r (l - n) (8 * so + n)) := by
          rw [← hL, List.range'_succ, List.flatMap_cons]
        have elen : L.length = (fil r (l - n) (8 * so + n)).length + ((List.range' (n + 1) rem).flatMap (fun n => fil r (l - n) (8 * so + n))).length := by rw [eL, List.length_append]
        unfold F10_fills_b50
        rw [if_neg (by rw [i3_lt (by omega) (by omega) (by omega) (by omega)]; omega)]
        have ea : i3 (field : Int) + 1 = i3 ((field + 1 : Nat) : Int) := by rw [i3_l1, i3_add]; rfl
        have eb : i3 (l : Int) - i3 (n : Int) = i3 ((l - n : Nat) : Int) := by rw [i3_sub]; congr 1; omega
        have ec : (8 : Int32) * i3 (so : Int) + i3 (n : Int) = i3 ((8 * so + n : Nat) : Int) := by
          rw [i3_l8, i3_mul, i3_add]; congr 1 <;> omega
        have ed : i3 (n : Int) + 1 = i3 ((n + 1 : Nat) : Int) := by rw [i3_l1, i3_add]; rfl
        obtain ⟨many3, eights3, e3, hm3, he3⟩ := ih w (field + 1) (l - n) (8 * so + n) m2 many2 eights2 (by omega) (by omega) (by omega) (hso8 n (by omega)) hm2 (by omega)
        rw [ea, eb, ec, ed, e3]
        simp only [Option.bind_some]
        obtain ⟨many4, eights4, e4, hm4, he4⟩ := ihl w2 (n + 1) (m2 + (fil r (l - n) (8 * so + n)).length) many3 eights3 _ (by omega) (by omega) (by rw [hm3, upd_same]) rfl (by omega)
        refine ⟨many4, eights4, e4, ?_, ?_⟩
        · rw [hm4, hm3, elen]
          funext j
          unfold upd
          split
          · congr 2; omega
          · rfl
        · rw [he4, he3, eL, putL_append, Nat.add_assoc]
    have hflat : fil (r + 1) l so = (List.range' 0 (l + 1)).flatMap (fun n => fil r (l - n) (8 * so + n)) := by
      rw [← List.range_eq_range']; rfl
    unfold F10_fills F10_fills_e
    rw [ht, i3_l1, i3_sub, if_neg (by rw [i3_eq (by omega) (by omega) (by omega) (by omega)]; omega)]
    exact loop (l + 1) z 0 m many eights (fil (r + 1) l so) (by omega) (by omega) hm hflat.symm hlen
theorem F10_gainOf_ok {z K : Nat} (hz : 20 ≤ z) {W : Nat → Int} {t : Int} {fo : Nat → Nat} {told eights : Nat → Int32} (hV : Vd K W t) (hfo : ∀ s, s < 2 → fo s ≤ 7) (h0 : told 0 = i3 K) (hw : ∀ k, k < K → told (1 + k) = i3 (W k)) (h7 : told 7 = i3 t) (he : ∀ s i, s < 2 → i < ns K (fo s) → eights (128 * s + i) = i3 (cd K (fo s) i : Nat)) {i j : Nat} (hi : i < ns K (fo 0)) (hj : j < ns K (fo 1)) : F10_gainOf z (i3 i) (i3 j) told eights = some (i3 (gn K W t (cd K (fo 0) i) (cd K (fo 1) j))) := by
  have hK := hV.2.1
  have ht1 := hV.2.2.2.2.1
  have ht2 := hV.2.2.2.2.2
  have n0 := ns_bd hV (hfo 0 (by omega))
  have n1 := ns_bd hV (hfo 1 (by omega))
  have hon : ∀ (s i k : Nat), s < 2 → i < ns K (fo s) → k < K → F10_on (i3 s) (i3 i) (i3 k) told eights = some (i3 (dg K (cd K (fo s) i) k : Nat)) := fun s i k hs hi hk => by
    have nn := ns_bd hV (hfo s hs)
    have e1 : (128 : Int32) * i3 (s : Int) + i3 (i : Int) = i3 ((128 * s + i : Nat) : Int) := by
      rw [i3_l128, i3_mul, i3_add]; congr 1 <;> omega
    have e : (3 : Int32) * ((i3 K - (1 : Int32)) - i3 k) = i3 ((3 * (K - 1 - k) : Nat) : Int) := by
      rw [i3_l3, i3_l1, i3_sub, i3_sub, i3_mul]; congr 1; omega
    unfold F10_on F10_eightsOf
    rw [e1, xg_in _ (by omega) (by omega) (by omega), i3_xnN (by omega), he s i hs hi]
    simp only [Option.bind_some]
    rw [h0, e, i3_shr (cd_lt hK hi) (by omega)]
    rfl
  have hwo : ∀ k, k < K → F10_worth (i3 k) told = some (i3 (W k)) := fun k hk => by
    have e1 : (1 : Int32) + i3 (k : Int) = i3 ((1 + k : Nat) : Int) := by
      rw [i3_l1, i3_add]; congr 1
    unfold F10_worth
    rw [e1, xg_in _ (by omega) (by omega) (by omega), i3_xnN (by omega), hw k hk]
  have loop : ∀ (rem w k : Nat), k + rem = K → rem < w → F10_gainOf_b5 z w (i3 i) (i3 j) (i3 (sm k (fun k => W k * wn t (dg K (cd K (fo 0) i) k) (dg K (cd K (fo 1) j) k)))) (i3 k) told eights = some (i3 (gn K W t (cd K (fo 0) i) (cd K (fo 1) j))) := by
    intro rem
    induction rem with
    | zero =>
      intro w k hk hw
      obtain ⟨w, rfl⟩ : ∃ w', w = w' + 1 := ⟨w - 1, by omega⟩
      have e : k = K := by omega
      subst e
      unfold F10_gainOf_b5
      rw [h0, if_pos (by rw [i3_le (by omega) (by omega) (by omega) (by omega)]; omega)]
      rfl
    | succ rem ih =>
      intro w k hk hw
      obtain ⟨w, rfl⟩ : ∃ w', w = w' + 1 := ⟨w - 1, by omega⟩
      have d1 := dg_lt K (cd K (fo 0) i) k
      have d2 := dg_lt K (cd K (fo 1) j) k
      have o1 : F10_on 0 (i3 i) (i3 k) told eights = _ := hon 0 i k (by omega) hi (by omega)
      have o2 : F10_on 1 (i3 j) (i3 k) told eights = _ := hon 1 j k (by omega) hj (by omega)
      have b81 : ∀ sg : Int, sg = wn t (dg K (cd K (fo 0) i) k) (dg K (cd K (fo 1) j) k) → F10_gainOf_b81 z (i3 i) (i3 j) (i3 (sm k (fun k => W k * wn t (dg K (cd K (fo 0) i) k) (dg K (cd K (fo 1) j) k)))) (i3 k) (i3 sg) told eights (fun q0 q1 q2 q3 q4 q5 => F10_gainOf_b5 z w q0 q1 q2 q3 q4 q5) = some (i3 (gn K W t (cd K (fo 0) i) (cd K (fo 1) j))) := fun sg hsg => by
        unfold F10_gainOf_b81
        rw [hwo k (by omega)]
        simp only [Option.bind_some]
        rw [i3_mul, i3_add, i3_l1, i3_add]
        have := ih w (k + 1) (by omega) (by omega)
        have e : sm (k + 1) (fun k => W k * wn t (dg K (cd K (fo 0) i) k) (dg K (cd K (fo 1) j) k)) = sm k (fun k => W k * wn t (dg K (cd K (fo 0) i) k) (dg K (cd K (fo 1) j) k)) + sg * W k := by
          rw [hsg, Int.mul_comm (wn _ _ _)]; rfl
        rw [e] at this
        exact this
      unfold F10_gainOf_b5
      rw [h0, if_neg (by rw [i3_le (by omega) (by omega) (by omega) (by omega)]; omega), o1, o2]
      simp only [Option.bind_some]
      rw [i3_sub, h7]
      by_cases q1 : (dg K (cd K (fo 1) j) k : Int) < dg K (cd K (fo 0) i) k
      · rw [if_pos (by rw [i3_l0, i3_lt (by omega) (by omega) (by omega) (by omega)]; omega)]
        rw [show (1 : Int32) = i3 (1) from rfl]
        exact b81 (1) (by unfold wn; rw [if_neg (by omega), if_neg (by omega)])
      · rw [if_neg (by rw [i3_l0, i3_lt (by omega) (by omega) (by omega) (by omega)]; omega)]
        by_cases q2 : (dg K (cd K (fo 0) i) k : Int) = dg K (cd K (fo 1) j) k
        · rw [if_pos (by rw [i3_l0, i3_eq (by omega) (by omega) (by omega) (by omega)]; omega)]
          by_cases q3 : t = 1
          · rw [if_pos (by rw [q3]; rfl)]
            rw [show (1 : Int32) = i3 (1) from rfl]
            exact b81 (1) (by unfold wn; rw [if_pos q2, if_pos q3])
          · rw [if_neg (by rw [i3_l1, i3_eq (by omega) (by omega) (by omega) (by omega)]; exact q3)]
            unfold F10_gainOf_b60
            rw [if_neg (by rw [i3_l0, i3_lt (by omega) (by omega) (by omega) (by omega)]; omega), h7]
            by_cases q4 : t = 2
            · rw [if_pos (by rw [q4]; rfl)]
              rw [show ((-1) : Int32) = i3 ((-1)) from rfl]
              exact b81 ((-1)) (by unfold wn; rw [if_pos q2, if_neg q3, if_pos q4])
            · rw [if_neg (by rw [i3_l2, i3_eq (by omega) (by omega) (by omega) (by omega)]; exact q4)]
              rw [show (0 : Int32) = i3 (0) from rfl]
              exact b81 (0) (by unfold wn; rw [if_pos q2, if_neg q3, if_neg q4])
        · rw [if_neg (by rw [i3_l0, i3_eq (by omega) (by omega) (by omega) (by omega)]; omega)]
          unfold F10_gainOf_b60
          rw [if_pos (by rw [i3_l0, i3_lt (by omega) (by omega) (by omega) (by omega)]; omega)]
          rw [show ((-1) : Int32) = i3 ((-1)) from rfl]
          exact b81 ((-1)) (by unfold wn; rw [if_neg q2, if_pos (by omega)])
  exact loop K z 0 (by omega) (by omega)
theorem F10_lays_ok {z K : Nat} (hz : 1000 ≤ z) {W : Nat → Int} {t : Int} {fo : Nat → Nat} {told many eights gains : Nat → Int32} {il : Int32} (hV : Vd K W t) (hfo : ∀ s, s < 2 → fo s ≤ 7) (h0 : told 0 = i3 K) (hwt : ∀ k, k < K → told (1 + k) = i3 (W k)) (h5 : ∀ s, s < 2 → told (5 + s) = i3 (fo s)) (h7 : told 7 = i3 t) : ∃ many' eights' gains', F10_lays z told many eights gains il = some (many', eights', gains', 0) ∧ SM K W t fo told many' eights' gains' := by
  have hK1 := hV.1
  have hK := hV.2.1
  have n0 := ns_bd hV (hfo 0 (by omega))
  have n1 := ns_bd hV (hfo 1 (by omega))
  obtain ⟨K', rfl⟩ : ∃ K', K = K' + 1 := ⟨K - 1, by omega⟩
  -- one side
  have hside : ∀ (s : Nat) (many eights : Nat → Int32), s < 2 → ∃ many' eights', F10_fills z 6 (i3 s) 0 (i3 (fo s : Nat)) 0 told (upd many s 0) eights = some (many', eights') ∧ many' s = i3 (ns (K' + 1) (fo s) : Nat) ∧ (∀ s', s' ≠ s → many' s' = many s') ∧ (∀ i, i < ns (K' + 1) (fo s) → eights' (128 * s + i) = i3 (cd (K' + 1) (fo s) i : Nat)) ∧ (∀ p, (p < 128 * s ∨ 128 * s + 128 ≤ p) → eights' p = eights p) := by
    intro s many eights hs
    have hns := ns_bd hV (hfo s hs)
    have ef : fil K' (fo s) 0 = cl (K' + 1) (fo s) := fil_cl (by omega) (by have := hfo s hs; omega)
    have el : (fil K' (fo s) 0).length = ns (K' + 1) (fo s) := by rw [ef]; rfl
    obtain ⟨many', eights', e, hm, he⟩ := F10_fills_ok (z := z) (by omega) hs hK1 hK h0 K' 6 0 (fo s) 0 0 (upd many s 0) eights (by omega) (by omega) (hfo s hs) (by decide) (upd_same _ _ _) (by omega)
    refine ⟨many', eights', e, ?_, fun s' hne => ?_, fun i hi => ?_, fun p hp => ?_⟩
    · rw [hm, upd_same, el, Nat.zero_add]
    · rw [hm, upd_diff _ _ hne, upd_diff _ _ hne]
    · rw [he, putL_at, el, if_pos (by omega), ef, show 128 * s + i - (128 * s + 0) = i by omega]
      rfl
    · rw [he, putL_at, el, if_neg (by omega)]
  obtain ⟨many1, eights1, e1, a1, b1, c1, d1⟩ := hside 0 many eights (by omega)
  obtain ⟨many2, eights2, e2, a2, b2, c2, d2⟩ := hside 1 many1 eights1 (by omega)
  have hm : ∀ s, s < 2 → many2 s = i3 (ns (K' + 1) (fo s) : Nat) := fun s hs => by
    rcases two_cases hs with rfl | rfl
    · rw [b2 0 (by decide), a1]
    · exact a2
  have he : ∀ s i, s < 2 → i < ns (K' + 1) (fo s) → eights2 (128 * s + i) = i3 (cd (K' + 1) (fo s) i : Nat) := fun s i hs hi => by
    rcases two_cases hs with rfl | rfl
    · rw [d2 _ (by omega), c1 i hi]
    · exact c2 i hi
  -- the gains
  have inner : ∀ (i : Nat), i < ns (K' + 1) (fo 0) → ∀ (k42 : Int32 → (Nat → Int32) → (Nat → Int32) → (Nat → Int32) → (Nat → Int32) → Int32 → Option ((Nat → Int32) × (Nat → Int32) × (Nat → Int32) × Int32)) (rem w j : Nat) (gains : Nat → Int32), j + rem = ns (K' + 1) (fo 1) → rem < w → ∃ gains', F10_lays_b54 z w (i3 i) (i3 j) told many2 eights2 gains 0 k42 = k42 (i3 ((i + 1 : Nat) : Int)) told many2 eights2 gains' 0 ∧ ∀ a b, a < 128 → b < 128 → gains' (128 * a + b) = if a = i ∧ j ≤ b ∧ b < ns (K' + 1) (fo 1) then i3 (gn (K' + 1) W t (cd (K' + 1) (fo 0) i) (cd (K' + 1) (fo 1) b)) else gains (128 * a + b) := by
    intro i hi k42 rem
    induction rem with
    | zero =>
      intro w j gains hj hw
      obtain ⟨w, rfl⟩ : ∃ w', w = w' + 1 := ⟨w - 1, by omega⟩
      refine ⟨gains, ?_, fun a b ha hb => by rw [if_neg (by omega)]⟩
      unfold F10_lays_b54 F10_lays_b88
      rw [hm 1 (by omega), if_pos (by rw [i3_le (by omega) (by omega) (by omega) (by omega)]; omega), i3_l1, i3_add]
      rfl
    | succ rem ih =>
      intro w j gains hj hw
      obtain ⟨w, rfl⟩ : ∃ w', w = w' + 1 := ⟨w - 1, by omega⟩
      have e128 : (128 : Int32) * i3 (i : Int) + i3 (j : Int) = i3 ((128 * i + j : Nat) : Int) := by
        rw [i3_l128, i3_mul, i3_add]; congr 1 <;> omega
      unfold F10_lays_b54
      rw [hm 1 (by omega), if_neg (by rw [i3_le (by omega) (by omega) (by omega) (by omega)]; omega), F10_gainOf_ok (by omega) hV hfo h0 hwt h7 he hi (show j < ns (K' + 1) (fo 1) by omega)]
      simp only [Option.bind_some]
      rw [e128, xg_in _ (by omega) (by omega) (by omega), i3_xnN (by omega), i3_l1, i3_add]
      obtain ⟨gains', e, h⟩ := ih w (j + 1) (upd gains (128 * i + j) (i3 (gn (K' + 1) W t (cd (K' + 1) (fo 0) i) (cd (K' + 1) (fo 1) j)))) (by omega) (by omega)
      refine ⟨gains', e, fun a b ha hb => ?_⟩
      rw [h a b ha hb]
      by_cases q : a = i ∧ j + 1 ≤ b ∧ b < ns (K' + 1) (fo 1)
      · rw [if_pos q, if_pos (by omega)]
      · rw [if_neg q]
        unfold upd
        by_cases q2 : a = i ∧ b = j
        · rw [if_pos (by omega), if_pos (by omega), q2.2]
        · rw [if_neg (by omega), if_neg (by omega)]
  have outer : ∀ (rem w i : Nat) (gains : Nat → Int32), i + rem = ns (K' + 1) (fo 0) → rem < w → ∃ gains', F10_lays_b42 z w (i3 i) told many2 eights2 gains 0 = some (many2, eights2, gains', 0) ∧ ∀ a b, a < 128 → b < ns (K' + 1) (fo 1) → gains' (128 * a + b) = if i ≤ a ∧ a < ns (K' + 1) (fo 0) then i3 (gn (K' + 1) W t (cd (K' + 1) (fo 0) a) (cd (K' + 1) (fo 1) b)) else gains (128 * a + b) := by
    intro rem
    induction rem with
    | zero =>
      intro w i gains hi hw
      obtain ⟨w, rfl⟩ : ∃ w', w = w' + 1 := ⟨w - 1, by omega⟩
      refine ⟨gains, ?_, fun a b ha hb => by rw [if_neg (by omega)]⟩
      unfold F10_lays_b42
      rw [hm 0 (by omega), if_pos (by rw [i3_le (by omega) (by omega) (by omega) (by omega)]; omega)]
    | succ rem ih =>
      intro w i gains hi hw
      obtain ⟨w, rfl⟩ : ∃ w', w = w' + 1 := ⟨w - 1, by omega⟩
      unfold F10_lays_b42
      rw [hm 0 (by omega), if_neg (by rw [i3_le (by omega) (by omega) (by omega) (by omega)]; omega)]
      obtain ⟨gains1, eg, hg1⟩ := inner i (by omega) (fun q0 q1 q2 q3 q4 q5 => F10_lays_b42 z w q0 q1 q2 q3 q4 q5) (ns (K' + 1) (fo 1)) z 0 gains (by omega) (by omega)
      have eg' : F10_lays_b54 z z (i3 i) 0 told many2 eights2 gains 0 (fun q0 q1 q2 q3 q4 q5 => F10_lays_b42 z w q0 q1 q2 q3 q4 q5) = _ := eg
      rw [eg']
      obtain ⟨gains', e, h⟩ := ih w (i + 1) gains1 (by omega) (by omega)
      refine ⟨gains', e, fun a b ha hb => ?_⟩
      rw [h a b ha hb]
      by_cases q : i + 1 ≤ a ∧ a < ns (K' + 1) (fo 0)
      · rw [if_pos q, if_pos (by omega)]
      · rw [if_neg q, hg1 a b ha (by omega)]
        by_cases q2 : a = i
        · rw [if_pos (by omega), if_pos (by omega), q2]
        · rw [if_neg (by omega), if_neg (by omega)]
  obtain ⟨gains', eg, hg⟩ := outer (ns (K' + 1) (fo 0)) z 0 gains (by omega) (by omega)
  refine ⟨many2, eights2, gains', ?_, hV, hfo, h0, hwt, h5, h7, hm, he, fun i j hi hj => by rw [hg i j (by omega) hj, if_pos (by omega)]⟩
  have eg' : F10_lays_b40 z told many2 eights2 gains 0 = some (many2, eights2, gains', 0) := eg
  obtain ⟨z, rfl⟩ : ∃ z', z = z' + 3 := ⟨z - 3, by omega⟩
  have e5 : ∀ s : Nat, s < 2 → (5 : Int32) + i3 (s : Int) = i3 ((5 + s : Nat) : Int) := fun s hs => by
    rw [i3_l5, i3_add]; congr 1
  unfold F10_lays
  rw [show (0 : Int32) = i3 ((0 : Nat) : Int) from rfl]
  unfold F10_lays_b7
  rw [if_neg (by decide), e5 0 (by omega)]
  simp (disch := omega) only [xg_in, i3_xnN]
  rw [h5 0 (by omega)]
  rw [e1]
  simp only [Option.bind_some]
  unfold F10_lays_b7
  rw [if_neg (by decide), show i3 ((0 : Nat) : Int) + 1 = i3 ((1 : Nat) : Int) from rfl, e5 1 (by omega)]
  simp (disch := omega) only [xg_in, i3_xnN]
  rw [h5 1 (by omega)]
  rw [e2]
  simp only [Option.bind_some]
  unfold F10_lays_b7
  rw [if_pos (by decide)]
  exact eg'
