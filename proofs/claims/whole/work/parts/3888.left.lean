/-! ===== left, rounds ===== -/
/-- a set of both sides by places of 256 -/
def bLx (L : Nat → Nat → Bool) (x : Nat) : Bool := L (x / 128) (x % 128)
theorem laysRounds_ok {z K : Nat} (hz : 1000 ≤ z) {W : Nat → Int} {t : Int} {fo : Nat → Nat} {told many eights gains : Nat → Int32} (hM : SM K W t fo told many eights gains) : ∀ (rem w r : Nat) (isLeft goes : Nat → Int32), r + rem = 240 → rem + 1 < w → (∀ r', r' < r → some_go K W t fo r') → (∀ x, x < 256 → isLeft x = i3 (if bLx (lfs K W t fo r) x then 1 else 0)) → ∃ R isLeft' goes', last_go K W t fo R ∧ R ≤ 240 ∧ F10_laysLeft_b64 z w 1 many gains isLeft (i3 r) goes 1 = some (isLeft', i3 (R : Nat), goes', 1) ∧ ∀ x, x < 256 → isLeft' x = i3 (if bLx (lfs K W t fo R) x then 1 else 0) := by
  have hV := hM.1
  have hfo := hM.2.1
  have n0 := ns_bd hV (hfo 0 (by omega))
  have n1 := ns_bd hV (hfo 1 (by omega))
  intro rem
  induction rem with
  | zero =>
    intro w r isLeft goes hr hw hgo hL
    have := rounds_bd hV hfo hgo
    omega
  | succ rem ih =>
    intro w r isLeft goes hr hw hgo hL
    have rb := rounds_bd hV hfo hgo
    obtain ⟨w, rfl⟩ : ∃ w', w = w' + 1 := ⟨w - 1, by omega⟩
    -- who goes
    let ge : Nat → Bool := fun x => bLx (lfs K W t fo r) x && pd (Gs K W t fo (lfs K W t fo r) (x / 128) (x % 128))
    have mk : ∀ (k64 : Int32 → (Nat → Int32) → (Nat → Int32) → (Nat → Int32) → Int32 → (Nat → Int32) → Int32 → Option ((Nat → Int32) × Int32 × (Nat → Int32) × Int32)) (rem w x : Nat) (goes : Nat → Int32), x + rem = 256 → rem < w → (∀ x', x' < x → goes x' = i3 (if ge x' then 1 else 0)) → ∃ goes', F10_laysLeft_b72 z w (i3 (if anb ge x then 1 else 0)) (i3 x) many gains isLeft (i3 r) goes 1 k64 = F10_laysLeft_b141 z (i3 (if anb ge 256 then 1 else 0)) many gains isLeft (i3 r) goes' 1 k64 ∧ ∀ x, x < 256 → goes' x = i3 (if ge x then 1 else 0) := by
      intro k64 rem
      induction rem with
      | zero =>
        intro w x goes hx hw h
        obtain ⟨w, rfl⟩ : ∃ w', w = w' + 1 := ⟨w - 1, by omega⟩
        obtain rfl : x = 256 := by omega
        refine ⟨goes, ?_, h⟩
        unfold F10_laysLeft_b72
        rw [if_pos (by rw [i3_l256, i3_le (by omega) (by omega) (by omega) (by omega)]; omega)]
      | succ rem ih2 =>
        intro w x goes hx hw h
        obtain ⟨w, rfl⟩ : ∃ w', w = w' + 1 := ⟨w - 1, by omega⟩
        have dm := dm128 (show x < 256 by omega)
        have fin : ∀ (v : Int32), v = i3 (if ge x then 1 else 0) → ∃ goes', F10_laysLeft_b115 z (i3 (if anb ge x then 1 else 0)) (i3 x) (i3 x) v many gains isLeft (i3 r) goes 1 k64 (fun q0 q1 q2 q3 q4 q5 q6 q7 => F10_laysLeft_b72 z w q0 q1 q2 q3 q4 q5 q6 q7 k64) = F10_laysLeft_b141 z (i3 (if anb ge 256 then 1 else 0)) many gains isLeft (i3 r) goes' 1 k64 ∧ ∀ x, x < 256 → goes' x = i3 (if ge x then 1 else 0) := by
          intro v hv
          have nv : vp_nar .boolean v = v := by
            rw [hv]
            cases ge x <;> rfl
          obtain ⟨goes', e1, h1⟩ := ih2 w (x + 1) (upd goes x v) (by omega) (by omega) (fun x' hx' => by
            by_cases e : x' = x
            · subst e; rw [upd_same, hv]
            · rw [upd_diff _ _ e]; exact h x' (by omega))
          refine ⟨goes', ?_, h1⟩
          refine Eq.trans ?_ e1
          unfold F10_laysLeft_b115 F10_laysLeft_b134
          simp (disch := omega) only [xg_in, i3_xnN]
          rw [nv, upd_same, show i3 (x : Int) + 1 = i3 ((x + 1 : Nat) : Int) from by rw [i3_l1, i3_add]; rfl, show anb ge (x + 1) = (anb ge x || ge x) from rfl, hv]
          cases anb ge x
          · cases ge x <;> rfl
          · rfl
        unfold F10_laysLeft_b72
        rw [if_neg (show ¬ (256 : Int32) ≤ i3 (x : Int) by rw [i3_l256, i3_le (by omega) (by omega) (by omega) (by omega)]; omega), dm.1, dm.2]
        simp (disch := omega) only [xg_in, i3_xnN]
        rw [hL x (by omega)]
        cases hb : bLx (lfs K W t fo r) x
        · rw [if_pos (show i3 (if false = true then 1 else 0) = 0 from rfl)]
          refine fin 0 ?_
          show (0 : Int32) = i3 (if (bLx (lfs K W t fo r) x && _) = true then 1 else 0)
          rw [hb]; rfl
        · rw [if_neg (show ¬ i3 (if true = true then 1 else 0) = 0 from n10)]
          have hi : x % 128 < ns K (fo (x / 128)) := lfs_lt hb
          rw [isGoing_ok (by omega) hM (L := lfs K W t fo r) (fun s i hs hi => by
            have n2 := ns_bd hV (hfo s hs)
            rw [hL (128 * s + i) (by omega)]
            unfold bLx
            rw [show (128 * s + i) / 128 = s by omega, show (128 * s + i) % 128 = i by omega]) (show x / 128 < 2 by omega) hi]
          simp only [Option.bind_some]
          have eg : ge x = pd (Gs K W t fo (lfs K W t fo r) (x / 128) (x % 128)) := by
            show (bLx (lfs K W t fo r) x && _) = _
            rw [hb]; rfl
          cases hp : pd (Gs K W t fo (lfs K W t fo r) (x / 128) (x % 128))
          · rw [if_pos (show i3 (if false = true then 1 else 0) = 0 from rfl)]
            exact fin 0 (by rw [eg, hp]; rfl)
          · rw [if_neg (show ¬ i3 (if true = true then 1 else 0) = 0 from n10)]
            exact fin 1 (by rw [eg, hp]; rfl)
    -- they go
    have dr : ∀ (k64 : Int32 → (Nat → Int32) → (Nat → Int32) → (Nat → Int32) → Int32 → (Nat → Int32) → Int32 → Option ((Nat → Int32) × Int32 × (Nat → Int32) × Int32)) (x1 : Int32) (goes : Nat → Int32), (∀ x, x < 256 → goes x = i3 (if ge x then 1 else 0)) → ∀ (rem w x : Nat) (isLeft1 : Nat → Int32), x + rem = 256 → rem < w → (∀ x', x' < x → isLeft1 x' = i3 (if bLx (lfs K W t fo (r + 1)) x' then 1 else 0)) → (∀ x', x ≤ x' → x' < 256 → isLeft1 x' = i3 (if bLx (lfs K W t fo r) x' then 1 else 0)) → ∃ isLeft', F10_laysLeft_b143 z w x1 (i3 x) many gains isLeft1 (i3 r) goes 1 k64 = F10_laysLeft_b185 z x1 many gains isLeft' (i3 r) goes 1 k64 ∧ ∀ x, x < 256 → isLeft' x = i3 (if bLx (lfs K W t fo (r + 1)) x then 1 else 0) := by
      intro k64 x1 goes hg rem
      induction rem with
      | zero =>
        intro w x isLeft1 hx hw h1 h2
        obtain ⟨w, rfl⟩ : ∃ w', w = w' + 1 := ⟨w - 1, by omega⟩
        obtain rfl : x = 256 := by omega
        refine ⟨isLeft1, ?_, h1⟩
        unfold F10_laysLeft_b143
        rw [if_pos (by rw [i3_l256, i3_le (by omega) (by omega) (by omega) (by omega)]; omega)]
      | succ rem ih2 =>
        intro w x isLeft1 hx hw h1 h2
        obtain ⟨w, rfl⟩ : ∃ w', w = w' + 1 := ⟨w - 1, by omega⟩
        have e2 : bLx (lfs K W t fo (r + 1)) x = (bLx (lfs K W t fo r) x && !ge x) := by
          show (bLx (lfs K W t fo r) x && !pd (Gs K W t fo (lfs K W t fo r) (x / 128) (x % 128))) = (bLx (lfs K W t fo r) x && !(bLx (lfs K W t fo r) x && pd (Gs K W t fo (lfs K W t fo r) (x / 128) (x % 128))))
          cases bLx (lfs K W t fo r) x <;> rfl
        have fin : ∀ (v : Int32), v = i3 (if bLx (lfs K W t fo (r + 1)) x then 1 else 0) → ∃ isLeft', F10_laysLeft_b178 z x1 (i3 x) (i3 x) v many gains isLeft1 (i3 r) goes 1 k64 (fun q0 q1 q2 q3 q4 q5 q6 q7 => F10_laysLeft_b143 z w q0 q1 q2 q3 q4 q5 q6 q7 k64) = F10_laysLeft_b185 z x1 many gains isLeft' (i3 r) goes 1 k64 ∧ ∀ x, x < 256 → isLeft' x = i3 (if bLx (lfs K W t fo (r + 1)) x then 1 else 0) := by
          intro v hv
          have nv : vp_nar .boolean v = v := by
            rw [hv]
            cases bLx (lfs K W t fo (r + 1)) x <;> rfl
          unfold F10_laysLeft_b178
          simp (disch := omega) only [xg_in, i3_xnN]
          rw [nv, show i3 (x : Int) + 1 = i3 ((x + 1 : Nat) : Int) from by rw [i3_l1, i3_add]; rfl]
          exact ih2 w (x + 1) _ (by omega) (by omega) (fun x' hx' => by
            by_cases e : x' = x
            · subst e; rw [upd_same, hv]
            · rw [upd_diff _ _ e]; exact h1 x' (by omega)) (fun x' a b => by rw [upd_diff _ _ (by omega)]; exact h2 x' (by omega) b)
        unfold F10_laysLeft_b143
        rw [if_neg (show ¬ (256 : Int32) ≤ i3 (x : Int) by rw [i3_l256, i3_le (by omega) (by omega) (by omega) (by omega)]; omega)]
        simp (disch := omega) only [xg_in, i3_xnN]
        rw [h2 x (Nat.le_refl _) (by omega), hg x (by omega)]
        cases hb : bLx (lfs K W t fo r) x
        · rw [if_pos (show i3 (if false = true then 1 else 0) = 0 from rfl)]
          exact fin 0 (by rw [e2, hb]; rfl)
        · rw [if_neg (show ¬ i3 (if true = true then 1 else 0) = 0 from n10)]
          cases hp : ge x
          · rw [if_pos (show i3 (if false = true then 1 else 0) = 0 from rfl)]
            exact fin 1 (by rw [e2, hb, hp]; rfl)
          · rw [if_neg (show ¬ i3 (if true = true then 1 else 0) = 0 from n10)]
            exact fin 0 (by rw [e2, hb, hp]; rfl)
    have sg : anb ge 256 = true ↔ some_go K W t fo r := by
      rw [anb_iff]
      constructor
      · intro ⟨x, hx, hg⟩
        have hg' : (bLx (lfs K W t fo r) x && pd (Gs K W t fo (lfs K W t fo r) (x / 128) (x % 128))) = true := hg
        rw [Bool.and_eq_true] at hg'
        have hb : lfs K W t fo r (x / 128) (x % 128) = true := hg'.1
        refine ⟨x / 128, x % 128, by omega, lfs_lt hb, hb, ?_⟩
        rw [lfs_succ, hg'.2, Bool.not_true, Bool.and_false]
      · intro ⟨s, i, hs, hi, l1, l2⟩
        have n2 := ns_bd hV (hfo s hs)
        refine ⟨128 * s + i, by omega, ?_⟩
        show (lfs K W t fo r ((128 * s + i) / 128) ((128 * s + i) % 128) && pd (Gs K W t fo (lfs K W t fo r) ((128 * s + i) / 128) ((128 * s + i) % 128))) = true
        rw [show (128 * s + i) / 128 = s by omega, show (128 * s + i) % 128 = i by omega, l1]
        rw [lfs_succ, l1, Bool.true_and] at l2
        cases c : pd (Gs K W t fo (lfs K W t fo r) s i)
        · rw [c] at l2; exact absurd l2 (by decide)
        · rfl
    obtain ⟨goes1, e1, g1⟩ := mk (fun q0 q1 q2 q3 q4 q5 q6 => F10_laysLeft_b64 z w q0 q1 q2 q3 q4 q5 q6) 256 z 0 goes (by omega) (by omega) (fun x hx => absurd hx (Nat.not_lt_zero x))
    obtain ⟨isLeft1, e2, g2⟩ := dr (fun q0 q1 q2 q3 q4 q5 q6 => F10_laysLeft_b64 z w q0 q1 q2 q3 q4 q5 q6) (i3 (if anb ge 256 then 1 else 0)) goes1 g1 256 z 0 isLeft (by omega) (by omega) (fun x hx => absurd hx (Nat.not_lt_zero x)) (fun x _ hx => hL x hx)
    have e1' : F10_laysLeft_b72 z z 0 0 many gains isLeft (i3 r) goes 1 (fun q0 q1 q2 q3 q4 q5 q6 => F10_laysLeft_b64 z w q0 q1 q2 q3 q4 q5 q6) = _ := e1
    have e2' : F10_laysLeft_b143 z z (i3 (if anb ge 256 then 1 else 0)) 0 many gains isLeft (i3 r) goes1 1 (fun q0 q1 q2 q3 q4 q5 q6 => F10_laysLeft_b64 z w q0 q1 q2 q3 q4 q5 q6) = _ := e2
    unfold F10_laysLeft_b64
    rw [if_neg n10, e1']
    unfold F10_laysLeft_b141
    rw [e2']
    unfold F10_laysLeft_b185 F10_laysLeft_b199
    cases ha : anb ge 256
    · have hn : ¬ some_go K W t fo r := fun h => by rw [sg.mpr h] at ha; exact absurd ha (by decide)
      rw [if_pos (show i3 (if false = true then 1 else 0) = 0 from rfl), i3_l0, i3_add, Int.add_zero]
      obtain ⟨w, rfl⟩ : ∃ w', w = w' + 1 := ⟨w - 1, by omega⟩
      refine ⟨r, isLeft1, goes1, ⟨hgo, hn⟩, by omega, ?_, fun x hx => ?_⟩
      · unfold F10_laysLeft_b64
        rfl
      · rw [g2 x hx]
        have : bLx (lfs K W t fo (r + 1)) x = bLx (lfs K W t fo r) x := by
          have hx2 : ge x = false := by
            cases c : ge x
            · rfl
            · rw [(anb_iff ge 256).mpr ⟨x, hx, c⟩] at ha; exact absurd ha (by decide)
          have hx3 : (bLx (lfs K W t fo r) x && pd (Gs K W t fo (lfs K W t fo r) (x / 128) (x % 128))) = false := hx2
          show (bLx (lfs K W t fo r) x && !pd (Gs K W t fo (lfs K W t fo r) (x / 128) (x % 128))) = bLx (lfs K W t fo r) x
          cases c : bLx (lfs K W t fo r) x
          · rfl
          · rw [c, Bool.true_and] at hx3; rw [hx3]; rfl
        rw [this]
    · rw [if_neg (show ¬ i3 (if true = true then 1 else 0) = 0 from n10), show i3 (r : Int) + 1 = i3 ((r + 1 : Nat) : Int) from by rw [i3_l1, i3_add]; rfl]
      exact ih w (r + 1) isLeft1 goes1 (by omega) (by omega) (fun r' hr' => by
        by_cases c : r' = r
        · rw [c]; exact sg.mp ha
        · exact hgo r' (by omega)) g2
theorem laysLeft_ok {z K : Nat} (hz : 1000 ≤ z) {W : Nat → Int} {t : Int} {fo : Nat → Nat} {told many eights gains : Nat → Int32} (hM : SM K W t fo told many eights gains) {isLeft : Nat → Int32} {went laid : Int32} (hS : SVm K W t fo isLeft went laid) (goes : Nat → Int32) : ∃ R isLeft' goes', last_go K W t fo R ∧ R ≤ 240 ∧ F10_laysLeft z many gains isLeft went goes laid = some (isLeft', i3 (R : Nat), goes', 1) ∧ ∀ s i, s < 2 → i < ns K (fo s) → isLeft' (128 * s + i) = i3 (if lfs K W t fo R s i then 1 else 0) := by
  have hV := hM.1
  have hfo := hM.2.1
  unfold F10_laysLeft
  rcases hS with rfl | ⟨rfl, R, h1, h2, rfl, h3⟩
  · simp only [if_true]
    have loop : ∀ (rem w x : Nat) (isLeft : Nat → Int32), x + rem = 256 → rem < w → (∀ x', x' < x → isLeft x' = i3 (if bLx (lfs K W t fo 0) x' then 1 else 0)) → ∃ isLeft', F10_laysLeft_b15 z w (i3 x) many gains isLeft went goes 1 = F10_laysLeft_b57 z many gains isLeft' went goes 1 ∧ ∀ x, x < 256 → isLeft' x = i3 (if bLx (lfs K W t fo 0) x then 1 else 0) := by
      intro rem
      induction rem with
      | zero =>
        intro w x isLeft hx hw h
        obtain ⟨w, rfl⟩ : ∃ w', w = w' + 1 := ⟨w - 1, by omega⟩
        obtain rfl : x = 256 := by omega
        refine ⟨isLeft, ?_, h⟩
        unfold F10_laysLeft_b15
        rw [if_pos (by rw [i3_l256, i3_le (by omega) (by omega) (by omega) (by omega)]; omega)]
      | succ rem ih =>
        intro w x isLeft hx hw h
        obtain ⟨w, rfl⟩ : ∃ w', w = w' + 1 := ⟨w - 1, by omega⟩
        have dm := dm128 (show x < 256 by omega)
        have hs : x / 128 < 2 := by omega
        have n2 := ns_bd hV (hfo _ hs)
        have fin : ∀ (v : Int32), v = i3 (if bLx (lfs K W t fo 0) x then 1 else 0) → ∃ isLeft', F10_laysLeft_b50 z (i3 x) (i3 x) v many gains isLeft went goes 1 (fun q0 q1 q2 q3 q4 q5 q6 => F10_laysLeft_b15 z w q0 q1 q2 q3 q4 q5 q6) = F10_laysLeft_b57 z many gains isLeft' went goes 1 ∧ ∀ x, x < 256 → isLeft' x = i3 (if bLx (lfs K W t fo 0) x then 1 else 0) := by
          intro v hv
          have nv : vp_nar .boolean v = v := by
            rw [hv]
            cases bLx (lfs K W t fo 0) x <;> rfl
          unfold F10_laysLeft_b50
          simp (disch := omega) only [xg_in, i3_xnN]
          rw [nv, show i3 (x : Int) + 1 = i3 ((x + 1 : Nat) : Int) from by rw [i3_l1, i3_add]; rfl]
          exact ih w (x + 1) _ (by omega) (by omega) (fun x' hx' => by
            by_cases e : x' = x
            · subst e; rw [upd_same, hv]
            · rw [upd_diff _ _ e]; exact h x' (by omega))
        unfold F10_laysLeft_b15
        rw [if_neg (show ¬ (256 : Int32) ≤ i3 (x : Int) by rw [i3_l256, i3_le (by omega) (by omega) (by omega) (by omega)]; omega), dm.1, dm.2]
        simp (disch := omega) only [xg_in, i3_xnN]
        rw [hM.2.2.2.2.2.2.1 _ hs]
        have eb : bLx (lfs K W t fo 0) x = decide (x % 128 < ns K (fo (x / 128))) := rfl
        by_cases q : x % 128 < ns K (fo (x / 128))
        · rw [if_neg (show ¬ i3 (ns K (fo (x / 128)) : Nat) ≤ i3 ((x % 128 : Nat) : Int) by rw [i3_le (by omega) (by omega) (by omega) (by omega)]; omega)]
          exact fin 1 (by rw [eb, decide_eq_true q]; rfl)
        · rw [if_pos (show i3 (ns K (fo (x / 128)) : Nat) ≤ i3 ((x % 128 : Nat) : Int) by rw [i3_le (by omega) (by omega) (by omega) (by omega)]; omega)]
          exact fin 0 (by rw [eb, decide_eq_false q]; rfl)
    obtain ⟨il1, e1, g1⟩ := loop 256 z 0 isLeft (by omega) (by omega) (fun x hx => absurd hx (Nat.not_lt_zero x))
    have e1' : F10_laysLeft_b15 z z 0 many gains isLeft went goes 1 = _ := e1
    obtain ⟨R, il2, go2, a1, a2, a3, a4⟩ := laysRounds_ok hz hM 240 z 0 il1 goes (by omega) (by omega) (fun r hr => absurd hr (Nat.not_lt_zero r)) g1
    refine ⟨R, il2, go2, a1, a2, ?_, fun s i hs hi => ?_⟩
    · rw [e1']
      unfold F10_laysLeft_b57
      exact a3
    · have n2 := ns_bd hV (hfo s hs)
      rw [a4 (128 * s + i) (by omega)]
      unfold bLx
      rw [show (128 * s + i) / 128 = s by omega, show (128 * s + i) % 128 = i by omega]
  · rw [if_neg n10]
    exact ⟨R, isLeft, goes, h1, h2, rfl, h3⟩
theorem SVx_of {K : Nat} {W : Nat → Int} {t : Int} {fo : Nat → Nat} {R : Nat} (h1 : last_go K W t fo R) (h2 : R ≤ 240) {kept : Nat → Nat → Int32} {many : Nat → Int32} (h3 : KPs K fo (lfs K W t fo R) kept many) : SVx K W t fo kept many (i3 (R : Nat)) 0 := Or.inr ⟨rfl, R, h1, h2, rfl, h3⟩
theorem SVm_of {K : Nat} {W : Nat → Int} {t : Int} {fo : Nat → Nat} {R : Nat} (h1 : last_go K W t fo R) (h2 : R ≤ 240) {isLeft : Nat → Int32} (h3 : ∀ s i, s < 2 → i < ns K (fo s) → isLeft (128 * s + i) = i3 (if lfs K W t fo R s i then 1 else 0)) : SVm K W t fo isLeft (i3 (R : Nat)) 1 := Or.inr ⟨rfl, R, h1, h2, rfl, h3⟩
theorem call_rounds {z K : Nat} (hz : 1000 ≤ z) {W : Nat → Int} {t : Int} {fo : Nat → Nat} {fields ties : Int32} {worth forces many : Nat → Int32} {codes : Nat → Nat → Int32} (hX : SX K W t fo fields ties worth forces many codes) {told manym eights gains : Nat → Int32} (hM : SM K W t fo told manym eights gains) {kept : Nat → Nat → Int32} {vMany : Nat → Int32} {vTurns stale : Int32} (hSx : SVx K W t fo kept vMany vTurns stale) {isLeft : Nat → Int32} {went laid : Int32} (hSm : SVm K W t fo isLeft went laid) (thrown : Int32) (goes : Nat → Nat → Int32) (row goesm : Nat → Int32) : ∃ v kept' many' turns' stale' goes' row' isLeft' went' goesm' laid', F9_rounds z fields ties worth many codes kept vMany vTurns stale goes row = some (v, kept', many', turns', stale', goes', row') ∧ F10_rounds z thrown manym gains isLeft went goesm laid = some (v, 0, isLeft', went', goesm', laid') ∧ SVx K W t fo kept' many' turns' stale' ∧ SVm K W t fo isLeft' went' laid' := by
  obtain ⟨R, k', m', g', r', a1, a2, a3, a4⟩ := settle_ok hz hX hSx goes row
  obtain ⟨R', il', gm', b1, b2, b3, b4⟩ := laysLeft_ok hz hM hSm goesm
  obtain rfl := last_uniq a1 b1
  refine ⟨i3 (R : Nat), k', m', i3 (R : Nat), 0, g', r', il', i3 (R : Nat), gm', 1, ?_, ?_, SVx_of a1 a2 a4, SVm_of b1 b2 b4⟩
  · unfold F9_rounds
    rw [a3]; rfl
  · unfold F10_rounds
    rw [b3]; rfl
theorem call_left {z K : Nat} (hz : 1000 ≤ z) {W : Nat → Int} {t : Int} {fo : Nat → Nat} {fields ties : Int32} {worth forces many : Nat → Int32} {codes : Nat → Nat → Int32} (hX : SX K W t fo fields ties worth forces many codes) {told manym eights gains : Nat → Int32} (hM : SM K W t fo told manym eights gains) {kept : Nat → Nat → Int32} {vMany : Nat → Int32} {vTurns stale : Int32} (hSx : SVx K W t fo kept vMany vTurns stale) {isLeft : Nat → Int32} {went laid : Int32} (hSm : SVm K W t fo isLeft went laid) (x1 x2 thrown : Int32) (goes : Nat → Nat → Int32) (row goesm : Nat → Int32) : ∃ v kept' many' turns' stale' goes' row' isLeft' went' goesm' laid', F9_left z x1 x2 fields ties worth many codes kept vMany vTurns stale goes row = some (v, kept', many', turns', stale', goes', row') ∧ F10_left z x1 x2 thrown manym gains isLeft went goesm laid = some (v, 0, isLeft', went', goesm', laid') ∧ SVx K W t fo kept' many' turns' stale' ∧ SVm K W t fo isLeft' went' laid' := by
  obtain ⟨a, rfl, h1, h2⟩ := i3_ex x1
  obtain ⟨b, rfl, h3, h4⟩ := i3_ex x2
  unfold F9_left F10_left
  rw [isSide9 a h1 h2, isSide10 a h1 h2]
  simp only [Option.bind_some]
  by_cases e : a = 0 ∨ a = 1
  · obtain ⟨s, hs, rfl⟩ : ∃ s : Nat, s < 2 ∧ a = s := ⟨a.toNat, by omega, by omega⟩
    have n0 := ns_bd hX.1 (hX.2.1 s hs)
    obtain ⟨R, k', m', g', r', a1, a2, a3, a4⟩ := settle_ok hz hX hSx goes row
    rw [if_pos e, if_neg n10, if_neg n10, a3]
    simp (disch := omega) only [Option.bind_some, xg_in, i3_xnN]
    by_cases qb : -1 ≤ b
    · obtain ⟨R', il', gm', b1, b2, b3, b4⟩ := laysLeft_ok hz hM hSm goesm
      obtain rfl := last_uniq a1 b1
      rw [if_pos (show (-1 : Int32) ≤ i3 b by rw [i3_m1, i3_le (by omega) (by omega) (by omega) (by omega)]; exact qb), b3]
      simp only [Option.bind_some]
      have cm := cf_le (lfs K W t fo R s) (ns K (fo s))
      have loop : ∀ (rem w j : Nat), j + rem = ns K (fo s) → rem < w → (b = -1 ∨ (cf (lfs K W t fo R s) j : Int) ≤ b) → F10_left_b28 z w (i3 s) (i3 b) (i3 (cf (lfs K W t fo R s) j : Nat)) (i3 j) 0 manym gains il' (i3 (R : Nat)) gm' 1 = some (i3 (if b = -1 then (cf (lfs K W t fo R s) (ns K (fo s)) : Int) else if b < cf (lfs K W t fo R s) (ns K (fo s)) then (gt (lfs K W t fo R s) (ns K (fo s)) b.toNat : Int) else -1), 0, il', i3 (R : Nat), gm', 1) := by
        intro rem
        induction rem with
        | zero =>
          intro w j hj hw hb
          obtain ⟨w, rfl⟩ : ∃ w', w = w' + 1 := ⟨w - 1, by omega⟩
          obtain rfl : j = ns K (fo s) := by omega
          unfold F10_left_b28 F10_left_b72
          simp (disch := omega) only [xg_in, i3_xnN]
          rw [hM.2.2.2.2.2.2.1 s hs, if_pos (show i3 (ns K (fo s) : Nat) ≤ i3 (ns K (fo s) : Nat) by rw [i3_le (by omega) (by omega) (by omega) (by omega)]; omega)]
          by_cases c : b = -1
          · subst c
            rw [if_pos (show i3 (-1) = -1 from rfl), if_pos rfl]
          · rw [if_neg (show ¬ i3 b = -1 by rw [i3_m1, i3_eq (by omega) (by omega) (by omega) (by omega)]; exact c), if_neg c, if_neg (by omega)]
            rfl
        | succ rem ih =>
          intro w j hj hw hb
          obtain ⟨w, rfl⟩ : ∃ w', w = w' + 1 := ⟨w - 1, by omega⟩
          have hj' : j < ns K (fo s) := by omega
          have cj := cf_le (lfs K W t fo R s) j
          have e1 : (128 : Int32) * i3 (s : Int) + i3 (j : Int) = i3 ((128 * s + j : Nat) : Int) := by
            rw [i3_l128, i3_mul, i3_add]; congr 1
          have ej : cf (lfs K W t fo R s) (j + 1) = cf (lfs K W t fo R s) j + (if lfs K W t fo R s j then 1 else 0) := rfl
          have ih' := ih w (j + 1) (by omega) (by omega)
          unfold F10_left_b28 F10_left_b66
          simp only [e1]
          simp (disch := omega) only [xg_in, i3_xnN]
          rw [hM.2.2.2.2.2.2.1 s hs, if_neg (show ¬ i3 (ns K (fo s) : Nat) ≤ i3 (j : Int) by rw [i3_le (by omega) (by omega) (by omega) (by omega)]; omega), b4 s j hs hj', show i3 (j : Int) + 1 = i3 ((j + 1 : Nat) : Int) from by rw [i3_l1, i3_add]; rfl]
          cases hl : lfs K W t fo R s j
          · have ej' : cf (lfs K W t fo R s) (j + 1) = cf (lfs K W t fo R s) j := by rw [ej, hl]; rfl
            rw [ej'] at ih'
            rw [if_pos (show i3 (if false = true then 1 else 0) = 0 from rfl)]
            exact ih' hb
          · rw [hl, if_pos rfl] at ej
            rw [if_neg (show ¬ i3 (if true = true then 1 else 0) = 0 from n10)]
            by_cases c : (cf (lfs K W t fo R s) j : Int) = b
            · have cl1 := cf_mono (p := lfs K W t fo R s) (i := j + 1) (j := ns K (fo s)) hj'
              rw [if_pos (show i3 (cf (lfs K W t fo R s) j : Nat) = i3 b by rw [c]), if_neg (by omega), if_pos (by omega), show b.toNat = cf (lfs K W t fo R s) j by omega, gt_at hj' hl]
            · rw [if_neg (show ¬ i3 (cf (lfs K W t fo R s) j : Nat) = i3 b by rw [i3_eq (by omega) (by omega) (by omega) (by omega)]; exact c), show i3 (cf (lfs K W t fo R s) j : Nat) + 1 = i3 ((cf (lfs K W t fo R s) j + 1 : Nat) : Int) from by rw [i3_l1, i3_add]; rfl, ← ej]
              exact ih' (by omega)
      have lp : F10_left_b28 z z (i3 s) (i3 b) 0 0 0 manym gains il' (i3 (R : Nat)) gm' 1 = _ := loop (ns K (fo s)) z 0 (by omega) (by omega) (by
        rcases (show b = -1 ∨ 0 ≤ b by omega) with c | c
        · exact Or.inl c
        · exact Or.inr c)
      rw [lp]
      have km := (a4 s hs).1
      by_cases c : b = -1
      · subst c
        rw [if_pos (show i3 (-1) = -1 from rfl), if_pos rfl, km]
        exact ⟨_, _, _, _, _, _, _, _, _, _, _, rfl, rfl, SVx_of a1 a2 a4, SVm_of b1 b2 b4⟩
      · rw [if_neg (show ¬ i3 b = -1 by rw [i3_m1, i3_eq (by omega) (by omega) (by omega) (by omega)]; exact c), if_neg (show ¬ i3 b < 0 by rw [i3_l0, i3_lt (by omega) (by omega) (by omega) (by omega)]; omega), if_neg c, km]
        by_cases d : b < cf (lfs K W t fo R s) (ns K (fo s))
        · obtain ⟨b', rfl⟩ : ∃ b' : Nat, b = b' := ⟨b.toNat, by omega⟩
          rw [if_neg (show ¬ i3 (cf (lfs K W t fo R s) (ns K (fo s)) : Nat) ≤ i3 (b' : Int) by rw [i3_le (by omega) (by omega) (by omega) (by omega)]; omega), if_pos d]
          simp (disch := omega) only [xg_in, i3_xnN]
          rw [(a4 s hs).2 b' (by omega)]
          exact ⟨_, _, _, _, _, _, _, _, _, _, _, rfl, rfl, SVx_of a1 a2 a4, SVm_of b1 b2 b4⟩
        · rw [if_pos (show i3 (cf (lfs K W t fo R s) (ns K (fo s)) : Nat) ≤ i3 b by rw [i3_le (by omega) (by omega) (by omega) (by omega)]; omega), if_neg d]
          exact ⟨_, _, _, _, _, _, _, _, _, _, _, rfl, rfl, SVx_of a1 a2 a4, SVm_of b1 b2 b4⟩
    · rw [if_neg (show ¬ (-1 : Int32) ≤ i3 b by rw [i3_m1, i3_le (by omega) (by omega) (by omega) (by omega)]; exact qb), if_neg (show ¬ i3 b = -1 by rw [i3_m1, i3_eq (by omega) (by omega) (by omega) (by omega)]; omega), if_pos (show i3 b < 0 by rw [i3_l0, i3_lt (by omega) (by omega) (by omega) (by omega)]; omega)]
      exact ⟨_, _, _, _, _, _, _, _, _, _, _, rfl, rfl, SVx_of a1 a2 a4, hSm⟩
  · rw [if_neg e]
    exact ⟨_, _, _, _, _, _, _, _, _, _, _, rfl, rfl, hSx, hSm⟩
