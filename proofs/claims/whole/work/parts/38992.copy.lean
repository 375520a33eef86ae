/-! ===== text ===== -/
theorem cpy_at {α : Type} (f g : Nat → α) {n k : Nat} (h : k < n) : va_cpy f g 0 0 n k = f k := by
  unfold va_cpy
  rw [if_pos ⟨Nat.zero_le _, by omega⟩, Nat.zero_add, Nat.sub_zero]
/-- two settings that agree where it counts -/
theorem RS_agree {K : Nat} {W : Nat → Int} {t : Int} {fo bN : Nat → Nat} {bI : Nat → Nat → Nat} {pN : Nat → Nat} {pI : Nat → Nat → Nat} {pW : Nat → Nat → Int} {fields ties : Int32} {worth forces many : Nat → Int32} {codes bList : Nat → Nat → Int32} {bMany : Nat → Int32} {pList pWei : Nat → Nat → Int32} {pMany pAll read : Nat → Int32} (hX : SX K W t fo fields ties worth forces many codes) (hT : TD K W t fo read) (hB : BKr K fo bN bI bList bMany read) (hP : PLr K fo pN pI pW pList pWei pMany pAll read) {worth' forces' many' : Nat → Int32} {codes' bList' : Nat → Nat → Int32} {bMany' : Nat → Int32} {pList' pWei' : Nat → Nat → Int32} {pMany' pAll' : Nat → Int32} (h1 : ∀ k, k < 4 → worth' k = worth k) (h2 : ∀ s, s < 2 → forces' s = forces s ∧ many' s = many s ∧ bMany' s = bMany s ∧ pMany' s = pMany s ∧ pAll' s = pAll s ∧ (∀ i, i < 120 → codes' s i = codes s i) ∧ (∀ i, i < 6 → bList' s i = bList s i) ∧ (∀ i, i < 8 → pList' s i = pList s i ∧ pWei' s i = pWei s i)) : RS fields ties worth' forces' many' codes' bList' bMany' pList' pWei' pMany' pAll' read := by
  have hV := hX.1
  have K4 := hV.2.1
  refine ⟨K, W, t, fo, bN, bI, pN, pI, pW, ⟨hV, hX.2.1, hX.2.2.1, hX.2.2.2.1, fun k hk => (h1 k (by omega)).trans (hX.2.2.2.2.1 k hk), fun s hs => (h2 s hs).1.trans (hX.2.2.2.2.2.1 s hs), fun s hs => (h2 s hs).2.1.trans (hX.2.2.2.2.2.2.1 s hs), fun s i hs hi => ?_⟩, hT, fun s hs => ?_, fun s hs => ?_⟩
  · have n0 := ns_bd hV (hX.2.1 s hs)
    exact ((h2 s hs).2.2.2.2.2.1 i (by omega)).trans (hX.2.2.2.2.2.2.2 s i hs hi)
  · obtain ⟨a1, a2, a3, a4, a5⟩ := hB s hs
    exact ⟨a1, (h2 s hs).2.2.1.trans a2, a3, fun k hk => ⟨(a4 k hk).1, ((h2 s hs).2.2.2.2.2.2.1 k (by omega)).trans (a4 k hk).2.1, (a4 k hk).2.2⟩, a5⟩
  · obtain ⟨a1, a2, a3, a4, a5, a6⟩ := hP s hs
    exact ⟨a1, (h2 s hs).2.2.2.1.trans a2, a3, (h2 s hs).2.2.2.2.1.trans a4, fun k hk => by
      obtain ⟨b1, b2, b3, b4, b5, b6, b7⟩ := a5 k hk
      exact ⟨b1, b2, b3, ((h2 s hs).2.2.2.2.2.2.2 k (by omega)).1.trans b4, ((h2 s hs).2.2.2.2.2.2.2 k (by omega)).2.trans b5, b6, b7⟩, a6⟩
theorem copy_ok {z : Nat} (hz : 20 ≤ z) (s_fields : Int32) (s_ties : Int32) (s_worth : Nat → Int32) (s_forces : Nat → Int32) (s_many : Nat → Int32) (s_codes : Nat → Nat → Int32) (s_bList : Nat → Nat → Int32) (s_bMany : Nat → Int32) (s_pList : Nat → Nat → Int32) (s_pWei : Nat → Nat → Int32) (s_pDrawn : Nat → Nat → Int32) (s_pMany : Nat → Int32) (s_pAll : Nat → Int32) (s_pTurns : Nat → Int32) (fields : Int32) (ties : Int32) (worth : Nat → Int32) (forces : Nat → Int32) (many : Nat → Int32) (codes : Nat → Nat → Int32) (bList : Nat → Nat → Int32) (bMany : Nat → Int32) (pList : Nat → Nat → Int32) (pWei : Nat → Nat → Int32) (pDrawn : Nat → Nat → Int32) (pMany : Nat → Int32) (pAll : Nat → Int32) (pTurns : Nat → Int32) : ∃ q, F4_copyFrom z s_fields s_ties s_worth s_forces s_many s_codes s_bList s_bMany s_pList s_pWei s_pDrawn s_pMany s_pAll s_pTurns fields ties worth forces many codes bList bMany pList pWei pDrawn pMany pAll pTurns = some q ∧ q.1 = fields ∧ q.2.1 = ties ∧ (∀ k, k < 4 → q.2.2.1 k = worth k) ∧ (∀ s, s < 2 → q.2.2.2.1 s = forces s ∧ q.2.2.2.2.1 s = many s ∧ q.2.2.2.2.2.2.2.1 s = bMany s ∧ q.2.2.2.2.2.2.2.2.2.2.2.1 s = pMany s ∧ q.2.2.2.2.2.2.2.2.2.2.2.2.1 s = pAll s ∧ (∀ i, i < 120 → q.2.2.2.2.2.1 s i = codes s i) ∧ (∀ i, i < 6 → q.2.2.2.2.2.2.1 s i = bList s i) ∧ (∀ i, i < 8 → q.2.2.2.2.2.2.2.2.1 s i = pList s i ∧ q.2.2.2.2.2.2.2.2.2.1 s i = pWei s i)) := by
  obtain ⟨y, rfl⟩ : ∃ y, z = y + 3 := ⟨z - 3, by omega⟩
  have i0 : xin (0 : Int32) 2 = true := by decide
  have i1 : xin (0 + 1 : Int32) 2 = true := by decide
  have xn0 : xn (0 : Int32) = 0 := rfl
  have xn1 : xn (0 + 1 : Int32) = 1 := rfl
  unfold F4_copyFrom
  unfold F4_copyFrom_b32
  rw [if_neg (show ¬ (2 : Int32) ≤ 0 by decide)]
  simp only [xgQ i0, F0_copyFrom, F3_copyFrom, Option.bind_some, xn0]
  unfold F4_copyFrom_b32
  rw [if_neg (show ¬ (2 : Int32) ≤ 0 + 1 by decide)]
  simp only [xgQ i1, F0_copyFrom, F3_copyFrom, Option.bind_some, xn1]
  unfold F4_copyFrom_b32
  rw [if_pos (show (2 : Int32) ≤ 0 + 1 + 1 by decide)]
  refine ⟨_, rfl, rfl, rfl, fun k hk => cpy_at _ _ hk, fun s hs => ?_⟩
  rcases two_cases hs with rfl | rfl
  · refine ⟨rfl, rfl, rfl, rfl, rfl, fun i hi => ?_, fun i hi => ?_, fun i hi => ⟨?_, ?_⟩⟩
    · exact cpy_at _ _ hi
    · exact cpy_at _ _ hi
    · exact cpy_at _ _ hi
    · exact cpy_at _ _ hi
  · refine ⟨rfl, rfl, rfl, rfl, rfl, fun i hi => ?_, fun i hi => ?_, fun i hi => ⟨?_, ?_⟩⟩
    · exact cpy_at _ _ hi
    · exact cpy_at _ _ hi
    · exact cpy_at _ _ hi
    · exact cpy_at _ _ hi
