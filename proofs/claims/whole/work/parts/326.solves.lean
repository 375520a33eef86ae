/-! ===== the reference's game, solved ===== -/
theorem kz_bd {m n k : Nat} {g : Nat → Nat → Int} {game : Nat → Int32} (hG : GM m n g game) (hk : k < 7) {ii jj : Nat → Nat} (hii : ∀ c, c < k → ii c < n) (hjj : ∀ c, c < k → jj c < m) : (-1462763520 ≤ kd k g ii jj ∧ kd k g ii jj ≤ 1462763520) ∧ ∀ c, -1462763520 ≤ kz k g ii jj c ∧ kz k g ii jj c ≤ 1462763520 := by
  have hW := sy_bw hG hii hjj
  refine ⟨dt_bw (by omega) hW, fun c => dt_bw (by omega) (fun i q hi hq => ?_)⟩
  unfold st
  split
  · exact ek_bw (N := k + 1) (by omega) q
  · exact hW i q hi hq
theorem kap_at {m n so : Nat} {g : Nat → Nat → Int} {k : Nat} (hk : k = cf (fun k => so.testBit k) n) {jj : Nat → Nat} {i : Nat} (hi : i < n) : kap k n g (gt (fun k => so.testBit k) n) jj (i + 1) = if so.testBit i then sgi (kd k g (gt (fun k => so.testBit k) n) jj) * kz k g (gt (fun k => so.testBit k) n) jj (cf (fun k => so.testBit k) i) else 0 := by
  subst hk
  show sm _ (fun c => if gt (fun k => so.testBit k) n c = i then _ else 0) = _
  by_cases hp : so.testBit i = true
  · have e1 : cf (fun k => so.testBit k) (i + 1) = cf (fun k => so.testBit k) i + 1 := by
      show cf (fun k => so.testBit k) i + (if so.testBit i then 1 else 0) = _
      rw [if_pos hp]
    have hle : cf (fun k => so.testBit k) (i + 1) ≤ cf (fun k => so.testBit k) n := cf_mono (by omega)
    rw [if_pos hp, sm_one (r := cf (fun k => so.testBit k) i) (by omega) (fun c hc hne => if_neg (fun q => ?_)), if_pos (gt_at (p := fun k => so.testBit k) hi hp)]
    have := (gt_ex (p := fun k => so.testBit k) hc).2.2
    rw [q] at this
    exact hne this.symm
  · rw [if_neg hp]
    refine sm_zero (fun c hc => if_neg (fun q => ?_))
    have := (gt_ex (p := fun k => so.testBit k) hc).2.1
    rw [q] at this
    exact hp this
theorem sgi_bd {a x : Int} (h1 : -1462763520 ≤ x) (h2 : x ≤ 1462763520) : -1462763520 ≤ sgi a * x ∧ sgi a * x ≤ 1462763520 := by
  unfold sgi
  split <;> omega
theorem kap_bd {m n so : Nat} {g : Nat → Nat → Int} {game : Nat → Int32} (hG : GM m n g game) {k : Nat} (hk : k = cf (fun k => so.testBit k) n) {jj : Nat → Nat} (hjj : ∀ c, c < k → jj c < m) : ∀ t, t < n + 1 → -1462763520 ≤ kap k n g (gt (fun k => so.testBit k) n) jj t ∧ kap k n g (gt (fun k => so.testBit k) n) jj t ≤ 1462763520 := by
  have hn := hG.2.2.2.1
  have hcn := cf_le (fun k => so.testBit k) n
  have h := kz_bd hG (show k < 7 by omega) (ii := gt (fun k => so.testBit k) n) (jj := jj) (fun c hc => (gt_ex (p := fun k => so.testBit k) (by omega)).1) hjj
  intro t ht
  cases t with
  | zero => exact sgi_bd (h.2 k).1 (h.2 k).2
  | succ i =>
    rw [kap_at (m := m) hk (show i < n by omega)]
    split
    · exact sgi_bd (h.2 _).1 (h.2 _).2
    · omega
theorem F10_asks_ok {z m n : Nat} (hz : 100 ≤ z) {g : Nat → Nat → Int} {game : Nat → Int32} (hG : GM m n g game) {so ti : Nat} (hso : so < 64) (hti : ti < 64) {k : Nat} (hk : k = cf (fun k => so.testBit k) n) (hkt : k = cf (fun k => ti.testBit k) m) {fd : Bool} {b : Int} {f : Nat → Int} {isF : Int32} {bV bB : Int64} {bS : Nat → Int64} (hR : RB n fd b f isF bV bB bS) (sh mat sys : Nat → Int64) : ∃ (fd' : Bool) (b' : Int) (f' : Nat → Int) (isF' : Int32) (bV' bB' : Int64) (bS' sh' mat' sys' : Nat → Int64), F10_asks z (i3 so) (i3 ti) game (i3 n) (i3 m) isF bV bB bS sh mat sys = some (isF', bV', bB', bS', sh', mat', sys') ∧ RB n fd' b' f' isF' bV' bB' bS' ∧
    ((kd k g (gt (fun k => so.testBit k) n) (gt (fun k => ti.testBit k) m) = 0 ∨ ¬ lawful m n g (kap k n g (gt (fun k => so.testBit k) n) (gt (fun k => ti.testBit k) m)) ∨ (fd = true ∧ ¬ Lps (n + 1) (fun t => kap k n g (gt (fun k => so.testBit k) n) (gt (fun k => ti.testBit k) m) t * b - f t * kb k g (gt (fun k => so.testBit k) n) (gt (fun k => ti.testBit k) m)))) → fd' = fd ∧ b' = b ∧ f' = f) ∧
    (kd k g (gt (fun k => so.testBit k) n) (gt (fun k => ti.testBit k) m) ≠ 0 → lawful m n g (kap k n g (gt (fun k => so.testBit k) n) (gt (fun k => ti.testBit k) m)) → (fd = false ∨ Lps (n + 1) (fun t => kap k n g (gt (fun k => so.testBit k) n) (gt (fun k => ti.testBit k) m) t * b - f t * kb k g (gt (fun k => so.testBit k) n) (gt (fun k => ti.testBit k) m))) → fd' = true ∧ b' = kb k g (gt (fun k => so.testBit k) n) (gt (fun k => ti.testBit k) m) ∧ ∀ t, t < n + 1 → f' t = kap k n g (gt (fun k => so.testBit k) n) (gt (fun k => ti.testBit k) m) t) := by
  have hG' := hG
  obtain ⟨hm0, hm, hn0, hn, hg, hgm⟩ := hG'
  have hcn := cf_le (fun k => so.testBit k) n
  have hii : ∀ c, c < k → gt (fun k => so.testBit k) n c < n := fun c hc => (gt_ex (p := fun k => so.testBit k) (by omega)).1
  have hjj : ∀ c, c < k → gt (fun k => ti.testBit k) m c < m := fun c hc => (gt_ex (p := fun k => ti.testBit k) (by omega)).1
  have hkbd := kz_bd hG (show k < 7 by omega) hii hjj
  have hkapb := kap_bd hG hk hjj
  have hsW := sy_bw hG hii hjj
  have hkap := fun (i : Nat) (hi : i < n) => kap_at (m := m) (g := g) (jj := gt (fun k => ti.testBit k) m) hk hi
  -- the system is laid
  obtain ⟨sys1, e1, h1⟩ := F10_asks_b5_ok (z := z) (show 10 ≤ z by omega) hG hso hti (isF := isF) (bV := bV) (bB := bB) (bS := bS) (sh := sh) (mat := mat) m z 0 sys (by omega) (by omega)
  obtain ⟨sys2, e2, h2⟩ := F10_asks_b109_ok (z := z) (n := n) (x1 := i3 so) (rows := i3 n) (cols := i3 m) (game := game) (k := k) (by omega) (isF := isF) (bV := bV) (bB := bB) (bS := bS) (sh := sh) (mat := mat) (k + 1) z 0 sys1 (by omega) (by omega)
  have hsys : ∀ a c, a < k + 1 → c < k + 1 → sys2 (8 * a + c) = i6 (sy k g (gt (fun k => so.testBit k) n) (gt (fun k => ti.testBit k) m) c a) := fun a c ha hc => by
    rw [h2 a c (by omega) (by omega)]
    unfold sy
    by_cases q : a = k
    · rw [if_pos (show a = k ∧ 0 ≤ c ∧ c < k + 1 by omega)]
      congr 1
      by_cases q2 : c < k
      · rw [if_pos q2, if_pos q2, if_neg (by omega)]
      · rw [if_neg q2, if_neg q2, if_neg (by omega)]
    · rw [if_neg (show ¬ (a = k ∧ 0 ≤ c ∧ c < k + 1) by omega), h1 a c (by omega) (by omega)]
      have hc0 : cf (fun k => ti.testBit k) 0 = 0 := rfl
      rw [if_pos (show cf (fun k => ti.testBit k) 0 ≤ a ∧ a < cf (fun k => ti.testBit k) m by omega)]
      congr 1
      by_cases q2 : c < k
      · rw [if_neg (by omega), if_pos q2, if_pos (by omega)]
      · rw [if_pos (by omega), if_neg q2, if_pos (by omega)]
  have estart : F10_asks z (i3 so) (i3 ti) game (i3 n) (i3 m) isF bV bB bS sh mat sys = F10_asks_b144 z (i3 so) (i3 k) game (i3 n) (i3 m) isF bV bB bS sh mat sys2 := by
    have e1' : F10_asks z (i3 so) (i3 ti) game (i3 n) (i3 m) isF bV bB bS sh mat sys = F10_asks_b106 z (i3 so) (i3 (cf (fun k => ti.testBit k) m : Nat)) game (i3 n) (i3 m) isF bV bB bS sh mat sys1 := e1
    rw [e1', ← hkt]
    exact e2
  rw [estart]
  unfold F10_asks_b144
  have ek1 : i3 (k : Int) + 1 = i3 ((k + 1 : Nat) : Int) := by rw [i3_l1, i3_add]; rfl
  obtain ⟨mat1, em1⟩ := (F10_with_ok hz (N := k + 1) (by omega) (by omega) hsW hsys mat).1
  have em1' : F10_with z (i3 (k : Int) + 1) (-1 : Int32) mat sys2 = some (i6 (kd k g (gt (fun k => so.testBit k) n) (gt (fun k => ti.testBit k) m)), mat1) := by rw [ek1]; exact em1
  rw [em1']
  simp only [Option.bind_some]
  generalize hii' : gt (fun k => so.testBit k) n = ii at *
  generalize hjj' : gt (fun k => ti.testBit k) m = jj at *
  by_cases hD : kd k g ii jj = 0
  · rw [hD, i6_l0, cmp_eq, if_pos rfl]
    exact ⟨fd, b, f, isF, bV, bB, bS, sh, mat1, sys2, rfl, hR, fun _ => ⟨rfl, rfl, rfl⟩, fun q => absurd rfl q⟩
  · -- the sign
    have hsg : ∀ sg : Int, sg = sgi (kd k g ii jj) → ∃ (fd' : Bool) (b' : Int) (f' : Nat → Int) (isF' : Int32) (bV' bB' : Int64) (bS' sh' mat' sys' : Nat → Int64), F10_asks_b176 z (i3 so) (i3 k) (i6 (kd k g ii jj)) (i6 sg) game (i3 n) (i3 m) isF bV bB bS sh mat1 sys2 = some (isF', bV', bB', bS', sh', mat', sys') ∧ RB n fd' b' f' isF' bV' bB' bS' ∧ ((kd k g ii jj = 0 ∨ ¬ lawful m n g (kap k n g ii jj) ∨ (fd = true ∧ ¬ Lps (n + 1) (fun t => kap k n g ii jj t * b - f t * kb k g ii jj))) → fd' = fd ∧ b' = b ∧ f' = f) ∧ (kd k g ii jj ≠ 0 → lawful m n g (kap k n g ii jj) → (fd = false ∨ Lps (n + 1) (fun t => kap k n g ii jj t * b - f t * kb k g ii jj)) → fd' = true ∧ b' = kb k g ii jj ∧ ∀ t, t < n + 1 → f' t = kap k n g ii jj t) := by
      intro sg hsge
      subst hsge
      unfold F10_asks_b176
      obtain ⟨sh1, mat2, e3, h3⟩ := F10_asks_b184_ok (z := z) (m := m) hz hn hso hk (game := game) (cols := i3 m) hsW hsys (D := kd k g ii jj) (sg := sgi (kd k g ii jj)) (isF := isF) (bV := bV) (bB := bB) (bS := bS) n z 0 sh mat1 (by omega) (by omega)
      have e3' : F10_asks_b184 z z (i3 so) (i3 k) (i6 (kd k g ii jj)) (i6 (sgi (kd k g ii jj))) 0 0 game (i3 n) (i3 m) isF bV bB bS sh mat1 sys2 = _ := e3
      rw [e3']
      have hsh : ∀ i, i < n → sh1 i = i6 (kap k n g ii jj (i + 1)) := fun i hi => by
        rw [h3 i hi, if_pos (Nat.zero_le _), hkap i hi]
        rfl
      unfold F10_asks_b238
      obtain ⟨mat3, em3⟩ := (F10_with_ok hz (N := k + 1) (by omega) (by omega) hsW hsys mat2).2 k (by omega)
      have em3' : F10_with z (i3 (k : Int) + 1) (i3 k) mat2 sys2 = some (i6 (kz k g ii jj k), mat3) := by rw [ek1]; exact em3
      rw [em3']
      simp only [Option.bind_some]
      have ev : i6 (sgi (kd k g ii jj)) * i6 (kz k g ii jj k) = i6 (kap k n g ii jj 0) := i6_mul _ _
      have eb : i6 (sgi (kd k g ii jj)) * i6 (kd k g ii jj) = i6 (kb k g ii jj) := i6_mul _ _
      rw [ev, eb]
      have hkbp := kb_pos hD
      have hkb2 : kb k g ii jj ≤ 1462763520 := (sgi_bd hkbd.1.1 hkbd.1.2).2
      have hlaw := F10_isLawful_ok (z := z) (show 10 ≤ z by omega) hG hsh hkapb
      by_cases hl : lawful m n g (kap k n g ii jj)
      · rw [hlaw.1 hl]
        simp only [Option.bind_some]
        rw [if_neg (by decide)]
        have hbt := F10_isBetter_ok (z := z) (show 10 ≤ z by omega) hn hR ⟨hkbp, hkb2⟩ hkapb hsh
        by_cases hb : fd = false ∨ Lps (n + 1) (fun t => kap k n g ii jj t * b - f t * kb k g ii jj)
        · rw [hbt.1 hb]
          simp only [Option.bind_some]
          rw [if_neg (by decide)]
          obtain ⟨bS1, e4, h4⟩ := F10_asks_b297_ok (z := z) hn (game := game) (cols := i3 m) (isF := 1) (bV := i6 (kap k n g ii jj 0)) (bB := i6 (kb k g ii jj)) (sh := sh1) (mat := mat3) (sys := sys2) n z 0 bS (by omega) (by omega)
          have e4' : F10_asks_b297 z z 0 game (i3 n) (i3 m) 1 (i6 (kap k n g ii jj 0)) (i6 (kb k g ii jj)) bS sh1 mat3 sys2 = _ := e4
          rw [e4']
          refine ⟨true, kb k g ii jj, kap k n g ii jj, 1, _, _, bS1, sh1, mat3, sys2, rfl, ⟨rfl, fun _ => ⟨rfl, rfl, fun i hi => ?_, hkapb, hkbp, hkb2⟩⟩, fun q => ?_, fun _ _ _ => ⟨rfl, rfl, fun _ _ => rfl⟩⟩
          · rw [h4 i hi, if_pos (Nat.zero_le _), hsh i hi]
          · exfalso
            rcases q with q | q | q
            · exact hD q
            · exact q hl
            · rcases hb with q2 | q2
              · rw [q2] at q; exact absurd q.1 (by decide)
              · exact q.2 q2
        · rw [hbt.2 hb]
          simp only [Option.bind_some, if_true]
          exact ⟨fd, b, f, isF, bV, bB, bS, sh1, mat3, sys2, rfl, hR, fun _ => ⟨rfl, rfl, rfl⟩, fun _ _ q => absurd q hb⟩
      · rw [hlaw.2 hl]
        simp only [Option.bind_some, if_true]
        exact ⟨fd, b, f, isF, bV, bB, bS, sh1, mat3, sys2, rfl, hR, fun _ => ⟨rfl, rfl, rfl⟩, fun _ q => absurd q hl⟩
    have hDb := hkbd.1
    by_cases hpos : 0 < kd k g ii jj
    · rw [i6_l0, cmp_gt (by omega) (by omega) (by omega) (by omega) hpos, if_neg (by decide), if_neg (by decide)]
      exact hsg 1 (by unfold sgi; rw [if_pos hpos])
    · rw [i6_l0, cmp_lt (by omega) (by omega) (by omega) (by omega) (by omega), if_neg (by decide), if_pos (by decide)]
      exact hsg (-1) (by unfold sgi; rw [if_neg hpos])
/-- those that were asked till now -/
def QQ (m n s t : Nat) : Nat → (Nat → Nat) → (Nat → Nat) → Prop := fun k ii jj => ∃ so ti : Nat, 1 ≤ so ∧ so < 2 ^ n ∧ 1 ≤ ti ∧ ti < 2 ^ m ∧ cf (fun k => so.testBit k) n = cf (fun k => ti.testBit k) m ∧ (so < s ∨ (so = s ∧ ti < t)) ∧ k = cf (fun k => so.testBit k) n ∧ ii = gt (fun k => so.testBit k) n ∧ jj = gt (fun k => ti.testBit k) m
theorem BI_sub {m n : Nat} {g : Nat → Nat → Int} {Q Q' : Nat → (Nat → Nat) → (Nat → Nat) → Prop} {fd : Bool} {b : Int} {f : Nat → Int} (h : BI m n g Q fd b f) (hs : ∀ k ii jj, Q' k ii jj → Q k ii jj) : BI m n g Q' fd b f := by
  refine ⟨fun e k ii jj hQ => h.1 e k ii jj (hs k ii jj hQ), fun e => ?_⟩
  obtain ⟨h1, h2, h3⟩ := h.2 e
  exact ⟨h1, h2, fun k ii jj hQ => h3 k ii jj (hs k ii jj hQ)⟩
theorem chk_one : (List.range 8).all (fun m => decide ((1 : Int32) <<< (i3 (m : Nat) &&& 31) = i3 (2 ^ m : Nat))) = true := by decide +kernel
theorem shl_one {m : Nat} (hm : m < 8) : (1 : Int32) <<< (i3 (m : Nat) &&& 31) = i3 (2 ^ m : Nat) := of_decide_eq_true (List.all_eq_true.mp chk_one m (List.mem_range.mpr hm))
theorem pow2_le {n : Nat} (hn : n < 7) : 2 ^ n ≤ 64 := by
  have : 2 ^ n ≤ 2 ^ 6 := Nat.pow_le_pow_right (by decide) (by omega)
  omega
theorem F10_solves_b19_ok {z m n : Nat} (hz : 100 ≤ z) {g : Nat → Nat → Int} {game : Nat → Int32} (hG : GM m n g game) {so : Nat} (hso1 : 1 ≤ so) (hso : so < 2 ^ n) (k7 : Int32 → (Nat → Int32) → Int32 → Int32 → Int32 → Int64 → Int64 → (Nat → Int64) → (Nat → Int64) → (Nat → Int64) → (Nat → Int64) → Option (Int32 × Int64 × Int64 × (Nat → Int64) × (Nat → Int64) × (Nat → Int64) × (Nat → Int64))) : ∀ (rem w t : Nat) (fd : Bool) (b : Int) (f : Nat → Int) (isF : Int32) (bV bB : Int64) (bS sh mat sys : Nat → Int64), 1 ≤ t → t + rem = 2 ^ m → rem < w → RB n fd b f isF bV bB bS → BI m n g (QQ m n so t) fd b f → ∃ (fd' : Bool) (b' : Int) (f' : Nat → Int) (isF' : Int32) (bV' bB' : Int64) (bS' sh' mat' sys' : Nat → Int64), F10_solves_b19 z w (i3 so) (i3 t) game (i3 n) (i3 m) isF bV bB bS sh mat sys k7 = k7 (i3 ((so + 1 : Nat) : Int)) game (i3 n) (i3 m) isF' bV' bB' bS' sh' mat' sys' ∧ RB n fd' b' f' isF' bV' bB' bS' ∧ BI m n g (QQ m n (so + 1) 1) fd' b' f' := by
  have hm := hG.2.1
  have hn := hG.2.2.2.1
  have h64n := pow2_le hn
  have h64m := pow2_le hm
  intro rem
  induction rem with
  | zero =>
    intro w t fd b f isF bV bB bS sh mat sys ht1 ht hw hR hB
    obtain ⟨w, rfl⟩ : ∃ w', w = w' + 1 := ⟨w - 1, by omega⟩
    refine ⟨fd, b, f, isF, bV, bB, bS, sh, mat, sys, ?_, hR, BI_sub hB ?_⟩
    · unfold F10_solves_b19 F10_solves_b52
      rw [shl_one (by omega), if_pos (by rw [i3_le (by omega) (by omega) (by omega) (by omega)]; omega), i3_l1, i3_add]
      rfl
    · rintro k ii jj ⟨so', ti, q1, q2, q3, q4, q5, q6, q7⟩
      exact ⟨so', ti, q1, q2, q3, q4, q5, by omega, q7⟩
  | succ rem ih =>
    intro w t fd b f isF bV bB bS sh mat sys ht1 ht hw hR hB
    obtain ⟨w, rfl⟩ : ∃ w', w = w' + 1 := ⟨w - 1, by omega⟩
    have hcc : ((t : Nat) : Int) + 1 = ((t + 1 : Nat) : Int) := by omega
    unfold F10_solves_b19 F10_solves_b46
    have c1 := cf_le (fun k => so.testBit k) n
    have c2 := cf_le (fun k => t.testBit k) m
    rw [shl_one (by omega), if_neg (by rw [i3_le (by omega) (by omega) (by omega) (by omega)]; omega), F10_bits_ok (z := z) (by omega) hn hso, F10_bits_ok (z := z) (by omega) hm (show t < 2 ^ m by omega)]
    simp only [Option.bind_some]
    by_cases heq : cf (fun k => so.testBit k) n = cf (fun k => t.testBit k) m
    · rw [if_pos (by rw [heq])]
      obtain ⟨fd', b', f', isF', bV', bB', bS', sh', mat', sys', e, hR', hno, hyes⟩ := F10_asks_ok hz hG (show so < 64 by omega) (show t < 64 by omega) rfl heq hR sh mat sys
      rw [e]
      simp only [Option.bind_some]
      rw [i3_l1, i3_add, hcc]
      have hst := BI_step hB (fun c hc => (gt_ex (p := fun k => so.testBit k) hc).1) hno hyes
      refine ih w (t + 1) fd' b' f' isF' bV' bB' bS' sh' mat' sys' (by omega) (by omega) (by omega) hR' (BI_sub hst ?_)
      rintro k ii jj ⟨so', ti, q1, q2, q3, q4, q5, q6, q7, q8, q9⟩
      by_cases h : so' = so ∧ ti = t
      · obtain ⟨rfl, rfl⟩ := h
        exact Or.inr ⟨q7, q8, q9⟩
      · exact Or.inl ⟨so', ti, q1, q2, q3, q4, q5, by omega, q7, q8, q9⟩
    · rw [if_neg (by rw [i3_eq (by omega) (by omega) (by omega) (by omega)]; omega), i3_l1, i3_add, hcc]
      refine ih w (t + 1) fd b f isF bV bB bS sh mat sys (by omega) (by omega) (by omega) hR (BI_sub hB ?_)
      rintro k ii jj ⟨so', ti, q1, q2, q3, q4, q5, q6, q7, q8, q9⟩
      by_cases h : so' = so ∧ ti = t
      · obtain ⟨rfl, rfl⟩ := h
        exact absurd q5 heq
      · exact ⟨so', ti, q1, q2, q3, q4, q5, by omega, q7, q8, q9⟩
theorem F10_solves_b7_ok {z m n : Nat} (hz : 100 ≤ z) {g : Nat → Nat → Int} {game : Nat → Int32} (hG : GM m n g game) : ∀ (rem w so : Nat) (fd : Bool) (b : Int) (f : Nat → Int) (isF : Int32) (bV bB : Int64) (bS sh mat sys : Nat → Int64), 1 ≤ so → so + rem = 2 ^ n → rem < w → RB n fd b f isF bV bB bS → BI m n g (QQ m n so 1) fd b f → ∃ (fd' : Bool) (b' : Int) (f' : Nat → Int) (isF' : Int32) (bV' bB' : Int64) (bS' sh' mat' sys' : Nat → Int64), F10_solves_b7 z w (i3 so) game (i3 n) (i3 m) isF bV bB bS sh mat sys = some (isF', bV', bB', bS', sh', mat', sys') ∧ RB n fd' b' f' isF' bV' bB' bS' ∧ BI m n g (QQ m n (2 ^ n) 1) fd' b' f' := by
  have hm := hG.2.1
  have hn := hG.2.2.2.1
  have h64n := pow2_le hn
  have h64m := pow2_le hm
  have hp1 : 1 ≤ 2 ^ m := Nat.one_le_two_pow
  intro rem
  induction rem with
  | zero =>
    intro w so fd b f isF bV bB bS sh mat sys hs1 hs hw hR hB
    obtain ⟨w, rfl⟩ : ∃ w', w = w' + 1 := ⟨w - 1, by omega⟩
    have e : so = 2 ^ n := by omega
    refine ⟨fd, b, f, isF, bV, bB, bS, sh, mat, sys, ?_, hR, by rw [← e]; exact hB⟩
    unfold F10_solves_b7
    rw [shl_one (by omega), if_pos (by rw [i3_le (by omega) (by omega) (by omega) (by omega)]; omega)]
  | succ rem ih =>
    intro w so fd b f isF bV bB bS sh mat sys hs1 hs hw hR hB
    obtain ⟨w, rfl⟩ : ∃ w', w = w' + 1 := ⟨w - 1, by omega⟩
    unfold F10_solves_b7
    rw [shl_one (by omega), if_neg (by rw [i3_le (by omega) (by omega) (by omega) (by omega)]; omega)]
    obtain ⟨fd', b', f', isF', bV', bB', bS', sh', mat', sys', e, hR', hB'⟩ := F10_solves_b19_ok hz hG hs1 (show so < 2 ^ n by omega) (fun q0 q1 q2 q3 q4 q5 q6 q7 q8 q9 q10 => F10_solves_b7 z w q0 q1 q2 q3 q4 q5 q6 q7 q8 q9 q10) (2 ^ m - 1) z 1 fd b f isF bV bB bS sh mat sys (by omega) (by omega) (by omega) hR hB
    have e' : F10_solves_b19 z z (i3 so) 1 game (i3 n) (i3 m) isF bV bB bS sh mat sys (fun q0 q1 q2 q3 q4 q5 q6 q7 q8 q9 q10 => F10_solves_b7 z w q0 q1 q2 q3 q4 q5 q6 q7 q8 q9 q10) = _ := e
    rw [e']
    exact ih w (so + 1) fd' b' f' isF' bV' bB' bS' sh' mat' sys' (by omega) (by omega) (by omega) hR' hB'
theorem F10_solves_ok {z m n : Nat} (hz : 100 ≤ z) {g : Nat → Nat → Int} {game : Nat → Int32} (hG : GM m n g game) (isF : Int32) (bV bB : Int64) (bS sh mat sys : Nat → Int64) : ∃ (fd' : Bool) (b' : Int) (f' : Nat → Int) (isF' : Int32) (bV' bB' : Int64) (bS' sh' mat' sys' : Nat → Int64), F10_solves z game (i3 n) (i3 m) isF bV bB bS sh mat sys = some (isF', bV', bB', bS', sh', mat', sys') ∧ RB n fd' b' f' isF' bV' bB' bS' ∧ BI m n g (QQ m n (2 ^ n) 1) fd' b' f' := by
  have hn := hG.2.2.2.1
  have h64n := pow2_le hn
  have hp1 : 1 ≤ 2 ^ n := Nat.one_le_two_pow
  exact F10_solves_b7_ok hz hG (2 ^ n - 1) z 1 false 1 (fun _ => 0) 0 bV bB bS sh mat sys (by omega) (by omega) (by omega) ⟨rfl, fun q => absurd q (by decide)⟩ ⟨fun _ k ii jj hQ => by
    obtain ⟨so, ti, q1, q2, q3, q4, q5, q6, -⟩ := hQ
    omega, fun q => absurd q (by decide)⟩
/-- a set as a number -/
def mk (p : Nat → Bool) : Nat → Nat
  | 0 => 0
  | n + 1 => mk p n + (if p n then 2 ^ n else 0)
theorem mk_lt (p : Nat → Bool) (n : Nat) : mk p n < 2 ^ n := by
  induction n with
  | zero => exact Nat.one_pos
  | succ n ih =>
    show mk p n + (if p n then 2 ^ n else 0) < 2 ^ (n + 1)
    rw [Nat.pow_succ]
    split <;> omega
theorem mk_bit (p : Nat → Bool) : ∀ {n i : Nat}, i < n → (mk p n).testBit i = p i
  | 0, i, h => by omega
  | n + 1, i, h => by
    show (mk p n + (if p n then 2 ^ n else 0)).testBit i = p i
    have hlt := mk_lt p n
    by_cases e : i = n
    · subst e
      by_cases hp : p i = true
      · rw [if_pos hp, Nat.add_comm, Nat.testBit_two_pow_add_eq, Nat.testBit_lt_two_pow hlt, hp]; rfl
      · rw [if_neg hp, Nat.add_zero, Nat.testBit_lt_two_pow hlt]
        simpa using hp
    · by_cases hp : p n = true
      · rw [if_pos hp, Nat.add_comm, Nat.testBit_two_pow_add_gt (by omega)]
        exact mk_bit p (by omega)
      · rw [if_neg hp, Nat.add_zero]
        exact mk_bit p (by omega)
theorem cf_congr {p q : Nat → Bool} {n : Nat} (h : ∀ i, i < n → p i = q i) : cf p n = cf q n := by
  induction n with
  | zero => rfl
  | succ n ih =>
    show cf p n + (if p n then 1 else 0) = cf q n + (if q n then 1 else 0)
    rw [ih (fun i hi => h i (by omega)), h n (by omega)]
theorem cf_sm (p : Nat → Bool) (n : Nat) : (cf p n : Int) = sm n (fun i => if p i then 1 else 0) := by
  induction n with
  | zero => rfl
  | succ n ih =>
    show ((cf p n + (if p n then 1 else 0) : Nat) : Int) = sm n (fun i => if p i then 1 else 0) + (if p n then 1 else 0)
    rw [← ih]
    split <;> omega
/-- both come to the same -/
theorem solves_same {m n : Nat} {g : Nat → Nat → Int} {game : Nat → Int32} (hG : GM m n g game) {s : SS} (h : optm m n g s) {fd : Bool} {b : Int} {f : Nat → Int} (hB : BI m n g (QQ m n (2 ^ n) 1) fd b f) : fd = true ∧ 0 < b ∧ ∀ t, t < n + 1 → f t * s.1 m n = kst m n s t * b := by
  obtain ⟨hm0, hm, hn0, hn, hg, hgm⟩ := hG
  have hX := opt_X h hn0 hg
  have hN := h.1.1
  -- rows and columns of the last table
  have hbi : ∀ i, i < n → (mk (bb m s) n).testBit i = bb m s i := fun i hi => mk_bit _ hi
  have hbj : ∀ r, r < m → (mk (fun r => !bb m s (n + r)) m).testBit r = !bb m s (n + r) := fun r hr => mk_bit _ hr
  have hcount : cf (fun k => (mk (bb m s) n).testBit k) n = cf (fun k => (mk (fun r => !bb m s (n + r)) m).testBit k) m := by
    rw [cf_congr hbi, cf_congr (q := fun r => !bb m s (n + r)) hbj]
    have h1 := hN (fun v => if bb m s v then 1 else 0)
    have e1 : sm m (fun i => if bb m s (s.2.2.1 i) then (1 : Int) else 0) = sm m (fun _ => 1) := sm_congr (fun i hi => if_pos (bb_iff.mpr ⟨i, hi, rfl⟩))
    have e2 : sm n (fun j => if bb m s (s.2.2.2 j) then (1 : Int) else 0) = 0 := sm_zero (fun j hj => if_neg (fun q => (bas_not hN (SN_col hN hj)).mpr ⟨j, hj, rfl⟩ (bb_iff.mp q)))
    have e3 := sm_append n m (fun v => if bb m s v then (1 : Int) else 0)
    have e4 := cf_sm (bb m s) n
    have e5 := cf_sm (fun r => !bb m s (n + r)) m
    have e6 : sm m (fun r => if (!bb m s (n + r)) = true then (1 : Int) else 0) = sm m (fun _ => 1) - sm m (fun r => if bb m s (n + r) then 1 else 0) := by
      rw [← sm_sub]
      exact sm_congr (fun r _ => by cases bb m s (n + r) <;> rfl)
    have e7 : sm m (fun r => if (fun r => !bb m s (n + r)) r = true then (1 : Int) else 0) = sm m (fun r => if (!bb m s (n + r)) = true then (1 : Int) else 0) := rfl
    rw [e7, e6] at e5
    omega
  -- not empty
  have hne : 1 ≤ mk (bb m s) n := by
    apply Classical.byContradiction
    intro q
    have hz : mk (bb m s) n = 0 := by omega
    have hall : ∀ v, v < n → bb m s v = false := fun v hv => by
      have := hbi v hv
      rw [hz, Nat.zero_testBit] at this
      exact this.symm
    have hpt := (pt_Sol h.1 hn0 0).1
    have hz2 : sm n (pt m n s 0 0) = 0 := sm_zero (fun v hv => by
      have hnb : ¬ bas m s v := fun q2 => by
        have := bb_iff.mpr q2
        rw [hall v hv] at this
        exact absurd this (by decide)
      obtain ⟨j, hj, e⟩ := (bas_not hN (show v < n + m by omega)).mp hnb
      rw [← e, pt_col hN hn0 0 hj]
      split <;> simp)
    rw [hz2] at hpt
    omega
  have hcpos : 0 < cf (fun k => (mk (bb m s) n).testBit k) n := by
    apply Classical.byContradiction
    intro q
    have hz : ∀ i, i < n → bb m s i = false := fun i hi => by
      apply Classical.byContradiction
      intro q2
      have hp : bb m s i = true := by simpa using q2
      have h1 : cf (fun k => (mk (bb m s) n).testBit k) (i + 1) ≤ cf (fun k => (mk (bb m s) n).testBit k) n := cf_mono (by omega)
      have h2 : cf (fun k => (mk (bb m s) n).testBit k) (i + 1) = cf (fun k => (mk (bb m s) n).testBit k) i + 1 := by
        show cf (fun k => (mk (bb m s) n).testBit k) i + (if (mk (bb m s) n).testBit i then 1 else 0) = _
        rw [hbi i hi, if_pos hp]
      omega
    have hpt := (pt_Sol h.1 hn0 0).1
    have hz2 : sm n (pt m n s 0 0) = 0 := sm_zero (fun v hv => by
      have hnb : ¬ bas m s v := fun q2 => by
        have := bb_iff.mpr q2
        rw [hz v hv] at this
        exact absurd this (by decide)
      obtain ⟨j, hj, e⟩ := (bas_not hN (show v < n + m by omega)).mp hnb
      rw [← e, pt_col hN hn0 0 hj]
      split <;> simp)
    rw [hz2] at hpt
    omega
  have hne2 : 1 ≤ mk (fun r => !bb m s (n + r)) m := by
    apply Classical.byContradiction
    intro q
    have hz : mk (fun r => !bb m s (n + r)) m = 0 := by omega
    rw [hcount, hz] at hcpos
    have : cf (fun k => Nat.testBit 0 k) m = 0 := by
      have : ∀ m, cf (fun k => Nat.testBit 0 k) m = 0 := fun m => by
        induction m with
        | zero => rfl
        | succ m ih =>
          show cf (fun k => Nat.testBit 0 k) m + (if Nat.testBit 0 m then 1 else 0) = 0
          rw [ih, Nat.zero_testBit]; rfl
      exact this m
    omega
  refine BI_final hB h hn0 hg (k := cf (fun k => (mk (bb m s) n).testBit k) n) (ii := gt (fun k => (mk (bb m s) n).testBit k) n) (jj := gt (fun k => (mk (fun r => !bb m s (n + r)) m).testBit k) m) ⟨mk (bb m s) n, mk (fun r => !bb m s (n + r)) m, hne, mk_lt _ _, hne2, mk_lt _ _, hcount, Or.inl (mk_lt _ _), rfl, rfl, rfl⟩ ⟨fun c hc => ?_, fun c d hc hd hcd e => ?_, fun r hr hnb => ?_⟩ (fun v hv hb => ?_)
  · obtain ⟨h1, h2, -⟩ := gt_ex (p := fun k => (mk (bb m s) n).testBit k) hc
    refine ⟨h1, bb_iff.mp ?_⟩
    rw [← hbi _ h1]; exact h2
  · have h1 := (gt_ex (p := fun k => (mk (bb m s) n).testBit k) hc).2.2
    have h2 := (gt_ex (p := fun k => (mk (bb m s) n).testBit k) hd).2.2
    rw [e, h2] at h1
    exact hcd h1.symm
  · have hp : (fun k => (mk (fun r => !bb m s (n + r)) m).testBit k) r = true := by
      show (mk (fun r => !bb m s (n + r)) m).testBit r = true
      rw [hbj r hr]
      have : bb m s (n + r) = false := by
        cases e : bb m s (n + r) with
        | false => rfl
        | true => exact absurd (bb_iff.mp e) hnb
      rw [this]; rfl
    refine ⟨cf (fun k => (mk (fun r => !bb m s (n + r)) m).testBit k) r, ?_, gt_at hr hp⟩
    rw [hcount]
    have h1 : cf (fun k => (mk (fun r => !bb m s (n + r)) m).testBit k) (r + 1) ≤ cf (fun k => (mk (fun r => !bb m s (n + r)) m).testBit k) m := cf_mono (by omega)
    have h2 : cf (fun k => (mk (fun r => !bb m s (n + r)) m).testBit k) (r + 1) = cf (fun k => (mk (fun r => !bb m s (n + r)) m).testBit k) r + 1 := by
      show cf (fun k => (mk (fun r => !bb m s (n + r)) m).testBit k) r + (if (mk (fun r => !bb m s (n + r)) m).testBit r then 1 else 0) = _
      rw [if_pos hp]
    omega
  · have hp : (fun k => (mk (bb m s) n).testBit k) v = true := by
      show (mk (bb m s) n).testBit v = true
      rw [hbi v hv]; exact bb_iff.mpr hb
    refine ⟨cf (fun k => (mk (bb m s) n).testBit k) v, ?_, gt_at hv hp⟩
    have h1 : cf (fun k => (mk (bb m s) n).testBit k) (v + 1) ≤ cf (fun k => (mk (bb m s) n).testBit k) n := cf_mono (by omega)
    have h2 : cf (fun k => (mk (bb m s) n).testBit k) (v + 1) = cf (fun k => (mk (bb m s) n).testBit k) v + 1 := by
      show cf (fun k => (mk (bb m s) n).testBit k) v + (if (mk (bb m s) n).testBit v then 1 else 0) = _
      rw [if_pos hp]
    omega
