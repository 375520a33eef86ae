/-! ===== the text: a line, all lines ===== -/
def wFi : List Nat := [102, 105, 101, 108, 100, 115]
theorem wFi7 {z n p : Nat} (hz : 1000 ≤ z) {bs : Nat → Nat} {bytes tape : Nat → Int32} (hB : TB n bs bytes tape) {kind from' behind : Int32} (hC : TCk bs n p kind from' behind) : (wrd bs n p wFi → F7_isWord z 0 bytes kind from' behind = some 1) ∧ (¬ wrd bs n p wFi → F7_isWord z 0 bytes kind from' behind = some 0) := isWord7 hz hB hC (w := wFi) rfl rfl (by decide) (by decide)
theorem wFi10 {z n p : Nat} (hz : 1000 ≤ z) {bs : Nat → Nat} {bytes tape : Nat → Int32} (hB : TB n bs bytes tape) {from' next token value : Int32} (hR : TRk bs n p from' next token value) : (wrd bs n p wFi → F10_isWord z 102 105 101 108 100 115 tape (i3 n) from' next token = some 1) ∧ (¬ wrd bs n p wFi → F10_isWord z 102 105 101 108 100 115 tape (i3 n) from' next token = some 0) := isWord10 hz hB hR (w := wFi) (by decide) (by decide) (by decide)
def wFo : List Nat := [102, 111, 114, 99, 101, 115]
theorem wFo7 {z n p : Nat} (hz : 1000 ≤ z) {bs : Nat → Nat} {bytes tape : Nat → Int32} (hB : TB n bs bytes tape) {kind from' behind : Int32} (hC : TCk bs n p kind from' behind) : (wrd bs n p wFo → F7_isWord z 1 bytes kind from' behind = some 1) ∧ (¬ wrd bs n p wFo → F7_isWord z 1 bytes kind from' behind = some 0) := isWord7 hz hB hC (w := wFo) rfl rfl (by decide) (by decide)
theorem wFo10 {z n p : Nat} (hz : 1000 ≤ z) {bs : Nat → Nat} {bytes tape : Nat → Int32} (hB : TB n bs bytes tape) {from' next token value : Int32} (hR : TRk bs n p from' next token value) : (wrd bs n p wFo → F10_isWord z 102 111 114 99 101 115 tape (i3 n) from' next token = some 1) ∧ (¬ wrd bs n p wFo → F10_isWord z 102 111 114 99 101 115 tape (i3 n) from' next token = some 0) := isWord10 hz hB hR (w := wFo) (by decide) (by decide) (by decide)
def wTi : List Nat := [116, 105, 101, 115]
theorem wTi7 {z n p : Nat} (hz : 1000 ≤ z) {bs : Nat → Nat} {bytes tape : Nat → Int32} (hB : TB n bs bytes tape) {kind from' behind : Int32} (hC : TCk bs n p kind from' behind) : (wrd bs n p wTi → F7_isWord z 2 bytes kind from' behind = some 1) ∧ (¬ wrd bs n p wTi → F7_isWord z 2 bytes kind from' behind = some 0) := isWord7 hz hB hC (w := wTi) rfl rfl (by decide) (by decide)
theorem wTi10 {z n p : Nat} (hz : 1000 ≤ z) {bs : Nat → Nat} {bytes tape : Nat → Int32} (hB : TB n bs bytes tape) {from' next token value : Int32} (hR : TRk bs n p from' next token value) : (wrd bs n p wTi → F10_isWord z 116 105 101 115 0 0 tape (i3 n) from' next token = some 1) ∧ (¬ wrd bs n p wTi → F10_isWord z 116 105 101 115 0 0 tape (i3 n) from' next token = some 0) := isWord10 hz hB hR (w := wTi) (by decide) (by decide) (by decide)
def wBo : List Nat := [98, 111, 111, 107]
theorem wBo7 {z n p : Nat} (hz : 1000 ≤ z) {bs : Nat → Nat} {bytes tape : Nat → Int32} (hB : TB n bs bytes tape) {kind from' behind : Int32} (hC : TCk bs n p kind from' behind) : (wrd bs n p wBo → F7_isWord z 3 bytes kind from' behind = some 1) ∧ (¬ wrd bs n p wBo → F7_isWord z 3 bytes kind from' behind = some 0) := isWord7 hz hB hC (w := wBo) rfl rfl (by decide) (by decide)
theorem wBo10 {z n p : Nat} (hz : 1000 ≤ z) {bs : Nat → Nat} {bytes tape : Nat → Int32} (hB : TB n bs bytes tape) {from' next token value : Int32} (hR : TRk bs n p from' next token value) : (wrd bs n p wBo → F10_isWord z 98 111 111 107 0 0 tape (i3 n) from' next token = some 1) ∧ (¬ wrd bs n p wBo → F10_isWord z 98 111 111 107 0 0 tape (i3 n) from' next token = some 0) := isWord10 hz hB hR (w := wBo) (by decide) (by decide) (by decide)
def wPl : List Nat := [112, 108, 97, 110]
theorem wPl7 {z n p : Nat} (hz : 1000 ≤ z) {bs : Nat → Nat} {bytes tape : Nat → Int32} (hB : TB n bs bytes tape) {kind from' behind : Int32} (hC : TCk bs n p kind from' behind) : (wrd bs n p wPl → F7_isWord z 4 bytes kind from' behind = some 1) ∧ (¬ wrd bs n p wPl → F7_isWord z 4 bytes kind from' behind = some 0) := isWord7 hz hB hC (w := wPl) rfl rfl (by decide) (by decide)
theorem wPl10 {z n p : Nat} (hz : 1000 ≤ z) {bs : Nat → Nat} {bytes tape : Nat → Int32} (hB : TB n bs bytes tape) {from' next token value : Int32} (hR : TRk bs n p from' next token value) : (wrd bs n p wPl → F10_isWord z 112 108 97 110 0 0 tape (i3 n) from' next token = some 1) ∧ (¬ wrd bs n p wPl → F10_isWord z 112 108 97 110 0 0 tape (i3 n) from' next token = some 0) := isWord10 hz hB hR (w := wPl) (by decide) (by decide) (by decide)
def RSt (q : Int32 × Int32 × (Nat → Int32) × (Nat → Int32) × (Nat → Int32) × (Nat → Nat → Int32) × (Nat → Nat → Int32) × (Nat → Int32) × (Nat → Nat → Int32) × (Nat → Nat → Int32) × (Nat → Nat → Int32) × (Nat → Int32) × (Nat → Int32) × (Nat → Int32)) (read : Nat → Int32) : Prop := RS q.1 q.2.1 q.2.2.1 q.2.2.2.1 q.2.2.2.2.1 q.2.2.2.2.2.1 q.2.2.2.2.2.2.1 q.2.2.2.2.2.2.2.1 q.2.2.2.2.2.2.2.2.1 q.2.2.2.2.2.2.2.2.2.1 q.2.2.2.2.2.2.2.2.2.2.2.1 q.2.2.2.2.2.2.2.2.2.2.2.2.1 read
def LLo (bs : Nat → Nat) (n p : Nat) (o9 : Option (Int32 × Int32 × Int32 × Int32 × Int32 × Int32 × Int32 × (Nat → Int32) × (Nat → Int32) × (Nat → Int32) × (Nat → Nat → Int32) × (Nat → Nat → Int32) × (Nat → Int32) × (Nat → Nat → Int32) × (Nat → Nat → Int32) × (Nat → Nat → Int32) × (Nat → Int32) × (Nat → Int32) × (Nat → Int32))) (o10 : Option (Int32 × (Nat → Int32) × Int32 × Int32 × Int32 × Int32 × Int32 × Int32)) : Prop :=
  (∃ p' r9 r10, o9 = some r9 ∧ o10 = some r10 ∧ r9.1 = 1 ∧ TCk bs n p' r9.2.2.1 r9.2.2.2.1 r9.2.2.2.2.1 ∧ okR bs n p' r10 ∧ p + 5 ≤ p' ∧ RSt r9.2.2.2.2.2 r10.2.1) ∨ (∃ e r9 r10, 1 ≤ e ∧ e ≤ 10000 ∧ o9 = some r9 ∧ o10 = some r10 ∧ r9.1 = 0 ∧ r9.2.1 = i3 (-2 - e) ∧ noR e r10)
theorem line_both {z n p : Nat} (hz : 1000 ≤ z) {bs : Nat → Nat} {bytes tape : Nat → Int32} (hB : TB n bs bytes tape) {kind from' behind : Int32} (hC : TCk bs n p kind from' behind) {fromR next token value : Int32} (hR : TRk bs n p fromR next token value) {fields ties : Int32} {worth forces many : Nat → Int32} {codes bList : Nat → Nat → Int32} {bMany : Nat → Int32} {pList pWei : Nat → Nat → Int32} {pMany pAll read : Nat → Int32} (hS : RS fields ties worth forces many codes bList bMany pList pWei pMany pAll read) (pDrawn : Nat → Nat → Int32) (pTurns : Nat → Int32) (fault number : Int32) : LLo bs n p (F8_readLine z fault bytes kind from' behind (i3 n) fields ties worth forces many codes bList bMany pList pWei pDrawn pMany pAll pTurns) (F10_line z read tape (i3 n) fromR next token value 0 number) := by
  have sb := spc_bd bs hC.1
  have n3 := hB.1
  have tf := tk_facts bs hC.1
  unfold F8_readLine
  rw [lineL_eq]
  by_cases a0 : wrd bs n p wFi
  · have len0 : tkN bs n p - spc bs n p = 6 := a0.2.1
    rw [(wFi7 hz hB hC).1 a0, (wFi10 hz hB hR).1 a0]
    simp only [Option.bind_some]
    rw [if_neg n10, if_neg n10]
    rcases fields_line hz hB hC hR a0.1 hS pDrawn pTurns fault number with ⟨p', r9, r10, h9, h10, f9, hC', hR', hp, hS'⟩ | ⟨e, r9, r10, e1, e2, h9, h10, f9, g9, f10, g10⟩
    · rw [h9, h10]
      simp only [Option.bind_some]
      rw [f9, hR'.1]
      exact Or.inl ⟨p', _, _, rfl, rfl, rfl, hC', ⟨rfl, hR'.2⟩, by omega, hS'⟩
    · rw [h9, h10]
      simp only [Option.bind_some]
      rw [f9, f10]
      exact Or.inr ⟨e, _, _, e1, e2, rfl, rfl, rfl, g9, rfl, g10⟩
  · rw [(wFi7 hz hB hC).2 a0, (wFi10 hz hB hR).2 a0]
    simp only [Option.bind_some, if_true]
    by_cases a1 : wrd bs n p wFo
    · have len1 : tkN bs n p - spc bs n p = 6 := a1.2.1
      rw [(wFo7 hz hB hC).1 a1, (wFo10 hz hB hR).1 a1]
      simp only [Option.bind_some]
      rw [if_neg n10, if_neg n10]
      rcases forces_line hz hB hC hR a1.1 hS pDrawn pTurns fault number with ⟨p', r9, r10, h9, h10, f9, hC', hR', hp, hS'⟩ | ⟨e, r9, r10, e1, e2, h9, h10, f9, g9, f10, g10⟩
      · rw [h9, h10]
        simp only [Option.bind_some]
        rw [f9, hR'.1]
        exact Or.inl ⟨p', _, _, rfl, rfl, rfl, hC', ⟨rfl, hR'.2⟩, by omega, hS'⟩
      · rw [h9, h10]
        simp only [Option.bind_some]
        rw [f9, f10]
        exact Or.inr ⟨e, _, _, e1, e2, rfl, rfl, rfl, g9, rfl, g10⟩
    · rw [(wFo7 hz hB hC).2 a1, (wFo10 hz hB hR).2 a1]
      simp only [Option.bind_some, if_true]
      by_cases a2 : wrd bs n p wTi
      · have len2 : tkN bs n p - spc bs n p = 4 := a2.2.1
        rw [(wTi7 hz hB hC).1 a2, (wTi10 hz hB hR).1 a2]
        simp only [Option.bind_some]
        rw [if_neg n10, if_neg n10]
        rcases ties_line hz hB hC hR a2.1 hS fault number with ⟨p', r9, r10, h9, h10, f9, hC', hR', hp, hS'⟩ | ⟨e, r9, r10, e1, e2, h9, h10, f9, g9, f10, g10⟩
        · rw [h9, h10]
          simp only [Option.bind_some]
          rw [f9, hR'.1]
          exact Or.inl ⟨p', _, _, rfl, rfl, rfl, hC', ⟨rfl, hR'.2⟩, by omega, hS'⟩
        · rw [h9, h10]
          simp only [Option.bind_some]
          rw [f9, f10]
          exact Or.inr ⟨e, _, _, e1, e2, rfl, rfl, rfl, g9, rfl, g10⟩
      · rw [(wTi7 hz hB hC).2 a2, (wTi10 hz hB hR).2 a2]
        simp only [Option.bind_some, if_true]
        by_cases a3 : wrd bs n p wBo
        · have len3 : tkN bs n p - spc bs n p = 4 := a3.2.1
          rw [(wBo7 hz hB hC).1 a3, (wBo10 hz hB hR).1 a3]
          simp only [Option.bind_some]
          rw [if_neg n10, if_neg n10]
          rcases book_line hz hB hC hR a3.1 hS fault number with ⟨p', r9, r10, h9, h10, f9, hC', hR', hp, hS'⟩ | ⟨e, r9, r10, e1, e2, h9, h10, f9, g9, f10, g10⟩
          · rw [h9, h10]
            simp only [Option.bind_some]
            rw [f9, hR'.1]
            exact Or.inl ⟨p', _, _, rfl, rfl, rfl, hC', ⟨rfl, hR'.2⟩, by omega, hS'⟩
          · rw [h9, h10]
            simp only [Option.bind_some]
            rw [f9, f10]
            exact Or.inr ⟨e, _, _, e1, e2, rfl, rfl, rfl, g9, rfl, g10⟩
        · rw [(wBo7 hz hB hC).2 a3, (wBo10 hz hB hR).2 a3]
          simp only [Option.bind_some, if_true]
          by_cases a4 : wrd bs n p wPl
          · have len4 : tkN bs n p - spc bs n p = 4 := a4.2.1
            rw [(wPl7 hz hB hC).1 a4, (wPl10 hz hB hR).1 a4]
            simp only [Option.bind_some]
            rw [if_neg n10, if_neg n10]
            rcases plan_line hz hB hC hR a4.1 hS pDrawn pTurns fault number with ⟨p', r9, r10, h9, h10, f9, hC', hR', hp, hS'⟩ | ⟨e, r9, r10, e1, e2, h9, h10, f9, g9, f10, g10⟩
            · rw [h9, h10]
              simp only [Option.bind_some]
              rw [f9, hR'.1]
              exact Or.inl ⟨p', _, _, rfl, rfl, rfl, hC', ⟨rfl, hR'.2⟩, by omega, hS'⟩
            · rw [h9, h10]
              simp only [Option.bind_some]
              rw [f9, f10]
              exact Or.inr ⟨e, _, _, e1, e2, rfl, rfl, rfl, g9, rfl, g10⟩
          · rw [(wPl7 hz hB hC).2 a4, (wPl10 hz hB hR).2 a4]
            simp only [Option.bind_some, if_true]
            rw [hC.2.2.1, hR.2.1, refuse_ok (C := 1) (c := 1) rfl, bad_ok (C := 1) (c := 1) rfl]
            exact Or.inr ⟨_, _, _, by omega, by omega, rfl, rfl, rfl, rfl, rfl, rfl⟩
