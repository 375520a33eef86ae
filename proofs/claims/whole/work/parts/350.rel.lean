/-! ===== what the two hold of one thing ===== -/
/-- books -/
def BKr (K : Nat) (fo bN : Nat → Nat) (bI : Nat → Nat → Nat) (bList : Nat → Nat → Int32) (bMany told : Nat → Int32) : Prop := ∀ s, s < 2 → bN s ≤ 6 ∧ bMany s = i3 (bN s : Nat) ∧ told (8 + 24 * s) = i3 (bN s : Nat) ∧ (∀ k, k < bN s → bI s k < ns K (fo s) ∧ bList s k = i3 (bI s k : Nat) ∧ told (8 + 24 * s + 1 + k) = i3 (cd K (fo s) (bI s k) : Nat)) ∧ (∀ k j, k < bN s → j < bN s → k ≠ j → bI s k ≠ bI s j)
/-- plans -/
def PLr (K : Nat) (fo pN : Nat → Nat) (pI : Nat → Nat → Nat) (pW : Nat → Nat → Int) (pList pWei : Nat → Nat → Int32) (pMany pAll told : Nat → Int32) : Prop := ∀ s, s < 2 → pN s ≤ 8 ∧ pMany s = i3 (pN s : Nat) ∧ told (8 + 24 * s + 7) = i3 (pN s : Nat) ∧ pAll s = i3 (sm (pN s) (pW s)) ∧ (∀ k, k < pN s → pI s k < ns K (fo s) ∧ 1 ≤ pW s k ∧ pW s k ≤ 99 ∧ pList s k = i3 (pI s k : Nat) ∧ pWei s k = i3 (pW s k) ∧ told (8 + 24 * s + 8 + k) = i3 (cd K (fo s) (pI s k) : Nat) ∧ told (8 + 24 * s + 16 + k) = i3 (pW s k)) ∧ (∀ k j, k < pN s → j < pN s → k ≠ j → pI s k ≠ pI s j)
/-- turns; T: how many calls there were -/
def TNr (T : Nat) (tu : Nat → Nat) (dr : Nat → Nat → Nat) (pTurns : Nat → Int32) (pDrawn : Nat → Nat → Int32) (turns drawn : Nat → Int32) : Prop := ∀ s, s < 2 → tu s ≤ T ∧ pTurns s = i3 (tu s : Nat) ∧ turns s = i3 (tu s : Nat) ∧ ∀ k, k < 8 → dr s k ≤ T ∧ pDrawn s k = i3 (dr s k : Nat) ∧ drawn (8 * s + k) = i3 (dr s k : Nat)
/-- notes -/
def NTr (K : Nat) (fo nN : Nat → Nat) (nS : Nat → Nat → Nat) (ntSeen : Nat → Nat → Int32) (ntMany notes seen : Nat → Int32) : Prop := ∀ s, s < 2 → nN s ≤ 40 ∧ ntMany s = i3 (nN s : Nat) ∧ notes s = i3 (nN s : Nat) ∧ ∀ i, i < ns K (fo s) → nS s i ≤ nN s ∧ ntSeen s i = i3 (nS s i : Nat) ∧ seen (128 * s + i) = i3 (nS s i : Nat)
/-- the tape -/
def TPr (tN : Nat) (bs : Nat → Nat) (tBytes : Nat → Int32) (tMany : Int32) (tape : Nat → Int32) (taped : Int32) : Prop := tN ≤ 300 ∧ tMany = i3 (tN : Nat) ∧ taped = i3 (tN : Nat) ∧ ∀ k, k < tN → bs k < 256 ∧ tBytes k = i3 (bs k : Nat) ∧ tape k &&& 255 = i3 (bs k : Nat)
/-- those that are left, round by round -/
noncomputable def stp (K : Nat) (W : Nat → Int) (t : Int) (fo : Nat → Nat) (L : Nat → Nat → Bool) : Nat → Nat → Bool := fun s i => L s i && !pd (∃ j, j < ns K (fo s) ∧ L s j = true ∧ wrs (gsd K W t fo s i) (gsd K W t fo s j) (ns K (fo (1 - s))) (L (1 - s)) true 0 0)
noncomputable def lfs (K : Nat) (W : Nat → Int) (t : Int) (fo : Nat → Nat) : Nat → Nat → Nat → Bool
  | 0 => fun s i => decide (i < ns K (fo s))
  | R + 1 => stp K W t fo (lfs K W t fo R)
/-- some go at the R-th time -/
def some_go (K : Nat) (W : Nat → Int) (t : Int) (fo : Nat → Nat) (R : Nat) : Prop := ∃ s i, s < 2 ∧ i < ns K (fo s) ∧ lfs K W t fo R s i = true ∧ lfs K W t fo (R + 1) s i = false
def last_go (K : Nat) (W : Nat → Int) (t : Int) (fo : Nat → Nat) (R : Nat) : Prop := (∀ r, r < R → some_go K W t fo r) ∧ ¬ some_go K W t fo R
theorem last_uniq {K : Nat} {W : Nat → Int} {t : Int} {fo : Nat → Nat} {R R' : Nat} (h : last_go K W t fo R) (h' : last_go K W t fo R') : R = R' := by
  rcases Nat.lt_trichotomy R R' with q | q | q
  · exact absurd (h'.1 R q) h.2
  · exact q
  · exact absurd (h.1 R' q) h'.2
def SVx (K : Nat) (W : Nat → Int) (t : Int) (fo : Nat → Nat) (kept : Nat → Nat → Int32) (vMany : Nat → Int32) (vTurns stale : Int32) : Prop := stale = 1 ∨ (stale = 0 ∧ ∃ R, last_go K W t fo R ∧ R ≤ 240 ∧ vTurns = i3 (R : Nat) ∧ ∀ s, s < 2 → vMany s = i3 (cf (lfs K W t fo R s) (ns K (fo s)) : Nat) ∧ ∀ c, c < cf (lfs K W t fo R s) (ns K (fo s)) → kept s c = i3 (gt (lfs K W t fo R s) (ns K (fo s)) c : Nat))
def SVm (K : Nat) (W : Nat → Int) (t : Int) (fo : Nat → Nat) (isLeft : Nat → Int32) (went laid : Int32) : Prop := laid = 0 ∨ (laid = 1 ∧ ∃ R, last_go K W t fo R ∧ R ≤ 240 ∧ went = i3 (R : Nat) ∧ ∀ s i, s < 2 → i < ns K (fo s) → isLeft (128 * s + i) = i3 (if lfs K W t fo R s i then 1 else 0))
def FVr (fives : Nat → Int32) : Prop := ∀ k, k < 8 → fives k = i3 ((5 ^ k : Nat) : Int)
/-- all of it -/
def Rl (T : Nat) (chance fields ties : Int32) (worth forces many : Nat → Int32) (codes bList : Nat → Nat → Int32) (bMany : Nat → Int32) (pList pWei pDrawn : Nat → Nat → Int32) (pMany pAll pTurns tBytes : Nat → Int32) (tMany : Int32) (ntSeen : Nat → Nat → Int32) (ntMany : Nat → Int32) (kept : Nat → Nat → Int32) (vMany : Nat → Int32) (vTurns stale : Int32) (told manym eights gains notes seen turns drawn : Nat → Int32) (state : Int32) (tape : Nat → Int32) (taped : Int32) (fives isLeft : Nat → Int32) (went laid : Int32) : Prop :=
  ∃ (K : Nat) (W : Nat → Int) (t : Int) (fo bN : Nat → Nat) (bI : Nat → Nat → Nat) (pN : Nat → Nat) (pI : Nat → Nat → Nat) (pW : Nat → Nat → Int) (tu : Nat → Nat) (dr : Nat → Nat → Nat) (nN : Nat → Nat) (nS : Nat → Nat → Nat) (tN : Nat) (bs : Nat → Nat), SX K W t fo fields ties worth forces many codes ∧ SM K W t fo told manym eights gains ∧ BKr K fo bN bI bList bMany told ∧ PLr K fo pN pI pW pList pWei pMany pAll told ∧ TNr T tu dr pTurns pDrawn turns drawn ∧ NTr K fo nN nS ntSeen ntMany notes seen ∧ TPr tN bs tBytes tMany tape taped ∧ SVx K W t fo kept vMany vTurns stale ∧ SVm K W t fo isLeft went laid ∧ FVr fives ∧ chance = state
theorem TNr_mono {T T' : Nat} (h : T ≤ T') {tu : Nat → Nat} {dr : Nat → Nat → Nat} {pTurns : Nat → Int32} {pDrawn : Nat → Nat → Int32} {turns drawn : Nat → Int32} (q : TNr T tu dr pTurns pDrawn turns drawn) : TNr T' tu dr pTurns pDrawn turns drawn := fun s hs => by
  obtain ⟨h1, h2, h3, h4⟩ := q s hs
  exact ⟨by omega, h2, h3, fun k hk => by obtain ⟨a, b, c⟩ := h4 k hk; exact ⟨by omega, b, c⟩⟩
theorem Rl_mono {T T' : Nat} (h : T ≤ T') {chance fields ties : Int32} {worth forces many : Nat → Int32} {codes bList : Nat → Nat → Int32} {bMany : Nat → Int32} {pList pWei pDrawn : Nat → Nat → Int32} {pMany pAll pTurns tBytes : Nat → Int32} {tMany : Int32} {ntSeen : Nat → Nat → Int32} {ntMany : Nat → Int32} {kept : Nat → Nat → Int32} {vMany : Nat → Int32} {vTurns stale : Int32} {told manym eights gains notes seen turns drawn : Nat → Int32} {state : Int32} {tape : Nat → Int32} {taped : Int32} {fives isLeft : Nat → Int32} {went laid : Int32} (q : Rl T chance fields ties worth forces many codes bList bMany pList pWei pDrawn pMany pAll pTurns tBytes tMany ntSeen ntMany kept vMany vTurns stale told manym eights gains notes seen turns drawn state tape taped fives isLeft went laid) : Rl T' chance fields ties worth forces many codes bList bMany pList pWei pDrawn pMany pAll pTurns tBytes tMany ntSeen ntMany kept vMany vTurns stale told manym eights gains notes seen turns drawn state tape taped fives isLeft went laid := by
  obtain ⟨K, W, t, fo, bN, bI, pN, pI, pW, tu, dr, nN, nS, tN, bs, h1, h2, h3, h4, h5, h6⟩ := q
  exact ⟨K, W, t, fo, bN, bI, pN, pI, pW, tu, dr, nN, nS, tN, bs, h1, h2, h3, h4, TNr_mono h h5, h6⟩
