/-! ===== the text: what lies at a place, numbers, words ===== -/
def TCk (bs : Nat → Nat) (n p : Nat) (kind from' behind : Int32) : Prop := p ≤ n ∧ kind = i3 (tkK bs n p : Nat) ∧ from' = i3 (spc bs n p : Nat) ∧ (tkK bs n p ≠ 4 → behind = i3 (tkN bs n p : Nat))
def vlu (bs : Nat → Nat) (n p : Nat) : Int := dvl bs (spc bs n p) (tkN bs n p - spc bs n p)
def TRk (bs : Nat → Nat) (n p : Nat) (from' next token value : Int32) : Prop := p ≤ n ∧ from' = i3 (spc bs n p : Nat) ∧ next = i3 (tkN bs n p : Nat) ∧ token = i3 (tkK bs n p : Nat) ∧ (tkK bs n p = 2 → value = i3 (vlu bs n p))
theorem TC_step {z n p : Nat} (hz : 1000 ≤ z) {bs : Nat → Nat} {bytes tape : Nat → Int32} (hB : TB n bs bytes tape) {kind from' behind : Int32} (hC : TCk bs n p kind from' behind) (h4 : tkK bs n p ≠ 4) : ∃ k f b, F7_step z bytes kind from' behind (i3 n) = some (k, f, b) ∧ TCk bs n (tkN bs n p) k f b := by
  obtain ⟨h1, h2, h3, h5⟩ := hC
  rw [h5 h4]
  obtain ⟨nb, e, h⟩ := step_ok hz hB (tk_facts bs h1).2.2.1 kind from'
  exact ⟨_, _, nb, e, (tk_facts bs h1).2.2.1, rfl, rfl, h⟩
theorem TR_go {z n p : Nat} (hz : 1000 ≤ z) {bs : Nat → Nat} {bytes tape : Nat → Int32} (hB : TB n bs bytes tape) {from' next token value : Int32} (hR : TRk bs n p from' next token value) : ∃ f x k v, F10_go z tape (i3 n) from' next token value = some (f, x, k, v) ∧ TRk bs n (tkN bs n p) f x k v := by
  obtain ⟨h1, h2, h3, h5⟩ := hR
  rw [h3]
  obtain ⟨v, e, h⟩ := go_ok hz hB (tk_facts bs h1).2.2.1 from' token value
  exact ⟨_, _, _, v, e, (tk_facts bs h1).2.2.1, rfl, rfl, rfl, h⟩
theorem refuse_ok {C : Int32} {c : Int} (eC : C = i3 c) (fault : Int32) (f : Nat) : F8_refuse C fault (i3 (f : Nat)) = some (0, i3 (-2 - (8 * (f : Int) + c))) := by
  unfold F8_refuse
  rw [eC, i3_l8, i3_mul, i3_add, i3_m2, i3_sub]
theorem bad_ok {C : Int32} {c : Int} (eC : C = i3 c) (f : Nat) : F10_bad C (i3 (f : Nat)) 0 = some (0, i3 (8 * (f : Int) + c)) := by
  unfold F10_bad F10_bad_b24
  rw [eC, i3_l8, i3_mul, i3_add, if_pos rfl]
theorem vlu_bd {bs : Nat → Nat} {n p : Nat} (hp : p ≤ n) (h : tkK bs n p = 2) : 0 ≤ vlu bs n p ∧ vlu bs n p ≤ 9999 := by
  obtain ⟨-, f2, -, -, f5, -⟩ := tk_facts bs hp
  obtain ⟨g1, g2⟩ := f5 h
  exact dvl_bd _ (by omega) (fun k a b => g2 k a (by omega))
theorem amt_ok {z n p : Nat} (hz : 1000 ≤ z) {bs : Nat → Nat} {bytes tape : Nat → Int32} (hB : TB n bs bytes tape) {kind from' behind : Int32} (hC : TCk bs n p kind from' behind) (h : tkK bs n p = 2) : F7_amount z bytes from' behind = some (i3 (vlu bs n p)) := by
  obtain ⟨h1, h2, h3, h5⟩ := hC
  obtain ⟨-, f2, f3, -, -, -⟩ := tk_facts bs h1
  rw [h3, h5 (by omega), amount_ok hz hB f2 f3]
  rfl
theorem isNum_ok {z n p : Nat} (hz : 1000 ≤ z) {bs : Nat → Nat} {bytes tape : Nat → Int32} (hB : TB n bs bytes tape) {kind from' behind : Int32} (hC : TCk bs n p kind from' behind) {fromR next token value : Int32} (hR : TRk bs n p fromR next token value) {LO HI : Int32} {lo hi : Int} (eL : LO = i3 lo) (eH : HI = i3 hi) (h1 : 0 ≤ lo) (h2 : lo ≤ 1000) (h3 : -1000 ≤ hi) (h4 : hi ≤ 1000) (fault number : Int32) : (tkK bs n p = 2 ∧ lo ≤ vlu bs n p ∧ vlu bs n p ≤ hi → F8_isNumber z LO HI fault bytes kind from' behind = some (1, fault) ∧ F10_isNumber LO HI fromR token value 0 number = some (1, 0, i3 (vlu bs n p))) ∧ (¬ (tkK bs n p = 2 ∧ lo ≤ vlu bs n p ∧ vlu bs n p ≤ hi) → ∃ (e : Int) (num' : Int32), 1 ≤ e ∧ e ≤ 10000 ∧ F8_isNumber z LO HI fault bytes kind from' behind = some (0, i3 (-2 - e)) ∧ F10_isNumber LO HI fromR token value 0 number = some (0, i3 e, num')) := by
  have am := fun h => amt_ok hz hB hC h
  obtain ⟨c1, c2, c3, c4⟩ := hC
  obtain ⟨r1, r2, r3, r4, r5⟩ := hR
  obtain ⟨f1, f2, f3, f4, f5, f6⟩ := tk_facts bs c1
  have sb := spc_bd bs c1
  have n3 := hB.1
  subst eL eH c2 c3 r2 r4
  unfold F8_isNumber F10_isNumber
  by_cases q : tkK bs n p = 2
  · have vb := vlu_bd c1 q
    rw [if_pos (show i3 (tkK bs n p : Nat) = 2 by rw [q]; rfl), if_pos (show i3 (tkK bs n p : Nat) = 2 by rw [q]; rfl), am q, r5 q, within10 (by omega) (by omega) (by omega) (by omega) (by omega) (by omega)]
    simp only [Option.bind_some]
    unfold F8_isNumber_b35
    rw [refuse_ok (C := 2) (c := 2) rfl, bad_ok (C := 2) (c := 2) rfl]
    by_cases w : lo ≤ vlu bs n p ∧ vlu bs n p ≤ hi
    · rw [if_pos w, if_neg n10, if_neg (show ¬ i3 (vlu bs n p) < i3 lo by rw [i3_lt (by omega) (by omega) (by omega) (by omega)]; omega), if_pos (show i3 (vlu bs n p) ≤ i3 hi by rw [i3_le (by omega) (by omega) (by omega) (by omega)]; omega)]
      exact ⟨fun _ => ⟨rfl, rfl⟩, fun h => absurd ⟨q, w⟩ h⟩
    · rw [if_neg w, if_pos rfl]
      refine ⟨fun h => absurd h.2 w, fun _ => ⟨8 * (spc bs n p : Int) + 2, i3 (vlu bs n p), by omega, by omega, ?_, rfl⟩⟩
      by_cases a : vlu bs n p < lo
      · rw [if_pos (show i3 (vlu bs n p) < i3 lo by rw [i3_lt (by omega) (by omega) (by omega) (by omega)]; omega)]
        rfl
      · rw [if_neg (show ¬ i3 (vlu bs n p) < i3 lo by rw [i3_lt (by omega) (by omega) (by omega) (by omega)]; omega), if_neg (show ¬ i3 (vlu bs n p) ≤ i3 hi by rw [i3_le (by omega) (by omega) (by omega) (by omega)]; omega)]
        rfl
  · have ne : ¬ i3 (tkK bs n p : Nat) = 2 := by rw [i3_l2, i3_eq (by omega) (by omega) (by omega) (by omega)]; omega
    rw [if_neg ne, if_neg ne, refuse_ok (C := 1) (c := 1) rfl, bad_ok (C := 1) (c := 1) rfl]
    exact ⟨fun h => absurd h.1 q, fun _ => ⟨8 * (spc bs n p : Int) + 1, number, by omega, by omega, rfl, rfl⟩⟩
/-- a word lies there -/
def wrd (bs : Nat → Nat) (n p : Nat) (w : List Nat) : Prop := tkK bs n p = 1 ∧ tkN bs n p - spc bs n p = w.length ∧ ∀ j, j < w.length → bs (spc bs n p + j) = w.getD j 0
theorem isWord7 {z n p : Nat} (hz : 1000 ≤ z) {bs : Nat → Nat} {bytes tape : Nat → Int32} (hB : TB n bs bytes tape) {kind from' behind : Int32} (hC : TCk bs n p kind from' behind) {i : Nat} {w : List Nat} (hl : xKl.getD i 0 = w.length) (hl2 : Int32.ofNat w.length = i3 (w.length : Nat)) (h6 : w.length ≤ 6) (hw : ∀ j, j < w.length → xSc i j = i3 (w.getD j 0 : Nat) ∧ w.getD j 0 < 256) : (wrd bs n p w → F7_isWord z i bytes kind from' behind = some 1) ∧ (¬ wrd bs n p w → F7_isWord z i bytes kind from' behind = some 0) := by
  obtain ⟨c1, c2, c3, c4⟩ := hC
  obtain ⟨f1, f2, f3, f4, f5, f6⟩ := tk_facts bs c1
  have n3 := hB.1
  have loop : ∀ (rem x j : Nat), j + rem = w.length → rem < x → spc bs n p + w.length ≤ n → (∀ k, k < j → bs (spc bs n p + k) = w.getD k 0) → ((∀ k, k < w.length → bs (spc bs n p + k) = w.getD k 0) → F7_isWord_b28 z x i (i3 j) bytes (i3 (spc bs n p : Nat)) = some 1) ∧ ((¬ ∀ k, k < w.length → bs (spc bs n p + k) = w.getD k 0) → F7_isWord_b28 z x i (i3 j) bytes (i3 (spc bs n p : Nat)) = some 0) := by
    intro rem
    induction rem with
    | zero =>
      intro x j hj hx hn h
      obtain ⟨x, rfl⟩ : ∃ w', x = w' + 1 := ⟨x - 1, by omega⟩
      unfold F7_isWord_b28
      rw [hl, hl2, if_pos (by rw [i3_le (by omega) (by omega) (by omega) (by omega)]; omega)]
      exact ⟨fun _ => rfl, fun g => absurd (fun k hk => h k (by omega)) g⟩
    | succ rem ih =>
      intro x j hj hx hn h
      obtain ⟨x, rfl⟩ : ∃ w', x = w' + 1 := ⟨x - 1, by omega⟩
      obtain ⟨b1, b2, b3⟩ := hB.2 (spc bs n p + j) (by omega)
      obtain ⟨w1, w2⟩ := hw j (by omega)
      have ea : i3 (spc bs n p : Nat) + i3 (j : Nat) = i3 ((spc bs n p + j : Nat) : Int) := by rw [i3_add]; rfl
      unfold F7_isWord_b28
      rw [hl, hl2, if_neg (show ¬ i3 (w.length : Nat) ≤ i3 (j : Int) by rw [i3_le (by omega) (by omega) (by omega) (by omega)]; omega), ea]
      simp (disch := omega) only [xg_in, i3_xnN]
      rw [b2, w1, show i3 (j : Int) + 1 = i3 ((j + 1 : Nat) : Int) from by rw [i3_l1, i3_add]; rfl]
      by_cases q : bs (spc bs n p + j) = w.getD j 0
      · rw [if_pos (by rw [q])]
        exact ih x (j + 1) (by omega) (by omega) hn (fun k hk => by
          by_cases c : k = j
          · rw [c]; exact q
          · exact h k (by omega))
      · rw [if_neg (by rw [i3_eq (by omega) (by omega) (by omega) (by omega)]; omega)]
        exact ⟨fun g => absurd (g j (by omega)) q, fun _ => rfl⟩
  unfold F7_isWord
  by_cases q : tkK bs n p = 1
  · rw [c2, if_pos (show i3 (tkK bs n p : Nat) = 1 by rw [q]; rfl), c3, c4 (by omega), i3_sub, hl, hl2]
    by_cases q2 : tkN bs n p - spc bs n p = w.length
    · rw [if_pos (show i3 ((tkN bs n p : Nat) - (spc bs n p : Nat) : Int) = i3 (w.length : Nat) by congr 1; omega)]
      obtain ⟨l1, l2⟩ := loop w.length z 0 (by omega) (by omega) (by omega) (fun k hk => absurd hk (Nat.not_lt_zero k))
      exact ⟨fun h => l1 h.2.2, fun h => l2 (fun g => h ⟨q, q2, g⟩)⟩
    · rw [if_neg (show ¬ i3 ((tkN bs n p : Nat) - (spc bs n p : Nat) : Int) = i3 (w.length : Nat) by rw [i3_eq (by omega) (by omega) (by omega) (by omega)]; omega)]
      exact ⟨fun h => absurd h.2.1 q2, fun _ => rfl⟩
  · rw [c2, if_neg (show ¬ i3 (tkK bs n p : Nat) = 1 by rw [i3_l1, i3_eq (by omega) (by omega) (by omega) (by omega)]; omega)]
    exact ⟨fun h => absurd h.1 q, fun _ => rfl⟩
theorem isWord10 {z n p : Nat} (hz : 1000 ≤ z) {bs : Nat → Nat} {bytes tape : Nat → Int32} (hB : TB n bs bytes tape) {from' next token value : Int32} (hR : TRk bs n p from' next token value) {w : List Nat} (h6 : w.length ≤ 6) (hw : ∀ j, j < w.length → 97 ≤ w.getD j 0 ∧ w.getD j 0 < 256) {x1 x2 x3 x4 x5 x6 : Int32} (hx : ∀ j, j < 6 → upd (upd (upd (upd (upd (upd (fun _ => (0 : Int32)) 0 x1) 1 x2) 2 x3) 3 x4) 4 x5) 5 x6 j = i3 ((if j < w.length then w.getD j 0 else 0 : Nat) : Int)) : (wrd bs n p w → F10_isWord z x1 x2 x3 x4 x5 x6 tape (i3 n) from' next token = some 1) ∧ (¬ wrd bs n p w → F10_isWord z x1 x2 x3 x4 x5 x6 tape (i3 n) from' next token = some 0) := by
  obtain ⟨r1, r2, r3, r4, r5⟩ := hR
  obtain ⟨f1, f2, f3, f4, f5, f6⟩ := tk_facts bs r1
  have n3 := hB.1
  subst r2 r3 r4
  unfold F10_isWord F10_isWord_b60
  generalize upd (upd (upd (upd (upd (upd (fun _ => (0 : Int32)) 0 x1) 1 x2) 2 x3) 3 x4) 4 x5) 5 x6 = zr at hx
  have no : F10_isWord_b65 z z 0 0 tape (i3 n) (i3 (spc bs n p : Nat)) (i3 (tkN bs n p : Nat)) (i3 (tkK bs n p : Nat)) zr = some 0 := by
    obtain ⟨y, rfl⟩ : ∃ y, z = y + 1 := ⟨z - 1, by omega⟩
    rfl
  have loop : ∀ (rem x j : Nat), j + rem = 6 → rem + 1 < x → tkN bs n p - spc bs n p ≤ 6 → (∀ k, k < j → (if k < tkN bs n p - spc bs n p then bs (spc bs n p + k) else 0) = (if k < w.length then w.getD k 0 else 0)) → ((∀ k, k < 6 → (if k < tkN bs n p - spc bs n p then bs (spc bs n p + k) else 0) = (if k < w.length then w.getD k 0 else 0)) → F10_isWord_b65 z x 1 (i3 j) tape (i3 n) (i3 (spc bs n p : Nat)) (i3 (tkN bs n p : Nat)) (i3 (tkK bs n p : Nat)) zr = some 1) ∧ ((¬ ∀ k, k < 6 → (if k < tkN bs n p - spc bs n p then bs (spc bs n p + k) else 0) = (if k < w.length then w.getD k 0 else 0)) → F10_isWord_b65 z x 1 (i3 j) tape (i3 n) (i3 (spc bs n p : Nat)) (i3 (tkN bs n p : Nat)) (i3 (tkK bs n p : Nat)) zr = some 0) := by
    intro rem
    induction rem with
    | zero =>
      intro x j hj hx' hn h
      obtain ⟨x, rfl⟩ : ∃ w', x = w' + 1 := ⟨x - 1, by omega⟩
      unfold F10_isWord_b65
      rw [if_pos (by rw [i3_l6, i3_le (by omega) (by omega) (by omega) (by omega)]; omega)]
      exact ⟨fun _ => rfl, fun g => absurd (fun k hk => h k (by omega)) g⟩
    | succ rem ih =>
      intro x j hj hx' hn h
      obtain ⟨x, rfl⟩ : ∃ w', x = w' + 1 := ⟨x - 1, by omega⟩
      have ea : i3 (spc bs n p : Nat) + i3 (j : Nat) = i3 ((spc bs n p + j : Nat) : Int) := by rw [i3_add]; rfl
      have zj := hx j (by omega)
      have wb : (if j < w.length then w.getD j 0 else 0) < 256 := by
        split
        · exact (hw j (by omega)).2
        · omega
      -- one place
      have one : ∀ (b : Nat), b < 256 → (if j < tkN bs n p - spc bs n p then bs (spc bs n p + j) else 0) = b → ((∀ k, k < 6 → (if k < tkN bs n p - spc bs n p then bs (spc bs n p + k) else 0) = (if k < w.length then w.getD k 0 else 0)) → F10_isWord_b106 z (i3 j) (i3 (b : Nat)) tape (i3 n) (i3 (spc bs n p : Nat)) (i3 (tkN bs n p : Nat)) (i3 (tkK bs n p : Nat)) zr (fun q0 q1 q2 q3 q4 q5 q6 q7 => F10_isWord_b65 z x q0 q1 q2 q3 q4 q5 q6 q7) = some 1) ∧ ((¬ ∀ k, k < 6 → (if k < tkN bs n p - spc bs n p then bs (spc bs n p + k) else 0) = (if k < w.length then w.getD k 0 else 0)) → F10_isWord_b106 z (i3 j) (i3 (b : Nat)) tape (i3 n) (i3 (spc bs n p : Nat)) (i3 (tkN bs n p : Nat)) (i3 (tkK bs n p : Nat)) zr (fun q0 q1 q2 q3 q4 q5 q6 q7 => F10_isWord_b65 z x q0 q1 q2 q3 q4 q5 q6 q7) = some 0) := by
        intro b hb eb
        unfold F10_isWord_b106 F10_isWord_b119
        simp (disch := omega) only [xg_in, i3_xnN]
        rw [zj, show i3 (j : Int) + 1 = i3 ((j + 1 : Nat) : Int) from by rw [i3_l1, i3_add]; rfl]
        by_cases q : b = (if j < w.length then w.getD j 0 else 0)
        · rw [if_pos (by rw [q])]
          exact ih x (j + 1) (by omega) (by omega) hn (fun k hk => by
            by_cases c : k = j
            · rw [c, eb]; exact q
            · exact h k (by omega))
        · rw [if_neg (by rw [i3_eq (by omega) (by omega) (by omega) (by omega)]; omega)]
          refine ⟨fun g => absurd (by rw [← eb]; exact g j (by omega)) q, fun _ => ?_⟩
          obtain ⟨x, rfl⟩ : ∃ w', x = w' + 1 := ⟨x - 1, by omega⟩
          unfold F10_isWord_b65
          split
          · rfl
          · rfl
      unfold F10_isWord_b65
      rw [if_neg (show ¬ (6 : Int32) ≤ i3 (j : Int) by rw [i3_l6, i3_le (by omega) (by omega) (by omega) (by omega)]; omega), if_neg n10, i3_sub, ea]
      by_cases c : j < tkN bs n p - spc bs n p
      · rw [if_neg (show ¬ i3 _ ≤ i3 (j : Int) by rw [i3_le (by omega) (by omega) (by omega) (by omega)]; omega), byteAt_in hB (by omega)]
        simp only [Option.bind_some]
        exact one _ (hB.2 _ (by omega)).1 (if_pos c)
      · rw [if_pos (show i3 _ ≤ i3 (j : Int) by rw [i3_le (by omega) (by omega) (by omega) (by omega)]; omega)]
        exact one 0 (by omega) (if_neg c)
  by_cases q : tkK bs n p = 1
  · rw [if_pos (show i3 (tkK bs n p : Nat) = 1 by rw [q]; rfl), i3_sub, i3_l6]
    have f6' := f6 q
    by_cases q2 : 6 < tkN bs n p - spc bs n p
    · rw [if_pos (show i3 6 < i3 _ by rw [i3_lt (by omega) (by omega) (by omega) (by omega)]; omega), no]
      exact ⟨fun h => by have := h.2.1; omega, fun _ => rfl⟩
    · rw [if_neg (show ¬ i3 6 < i3 _ by rw [i3_lt (by omega) (by omega) (by omega) (by omega)]; omega)]
      obtain ⟨l1, l2⟩ := loop 6 z 0 (by omega) (by omega) (by omega) (fun k hk => absurd hk (Nat.not_lt_zero k))
      have iff : wrd bs n p w ↔ ∀ k, k < 6 → (if k < tkN bs n p - spc bs n p then bs (spc bs n p + k) else 0) = (if k < w.length then w.getD k 0 else 0) := by
        constructor
        · intro ⟨_, g2, g3⟩ k hk
          by_cases c : k < w.length
          · rw [if_pos (by omega), if_pos c]; exact g3 k c
          · rw [if_neg (by omega), if_neg c]
        · intro g
          have e : tkN bs n p - spc bs n p = w.length := by
            rcases Nat.lt_trichotomy (tkN bs n p - spc bs n p) w.length with c | c | c
            · have a := g _ (show tkN bs n p - spc bs n p < 6 by omega)
              rw [if_neg (Nat.lt_irrefl _), if_pos c] at a
              have := (hw _ c).1
              omega
            · exact c
            · have a := g w.length (by omega)
              rw [if_pos c, if_neg (Nat.lt_irrefl _)] at a
              have := (f6' (spc bs n p + w.length) (by omega) (by omega)).1
              omega
          refine ⟨q, e, fun j hj => ?_⟩
          have a := g j (by omega)
          rw [if_pos (by omega), if_pos hj] at a
          exact a
      exact ⟨fun h => l1 (iff.mp h), fun h => l2 (fun g => h (iff.mpr g))⟩
  · rw [if_neg (show ¬ i3 (tkK bs n p : Nat) = 1 by rw [i3_l1, i3_eq (by omega) (by omega) (by omega) (by omega)]; omega), no]
    exact ⟨fun h => absurd h.1 q, fun _ => rfl⟩
