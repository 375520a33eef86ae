/-! ===== call: feed ===== -/
theorem and255 (y : Int32) : ∃ b : Nat, b < 256 ∧ y &&& 255 = i3 (b : Int) := by
  refine ⟨y.toBitVec.toNat % 256, Nat.mod_lt _ (by decide), ?_⟩
  apply Int32.toBitVec.inj
  apply BitVec.eq_of_toNat_eq
  have e1 : (y &&& 255).toBitVec = y.toBitVec &&& 255#32 := rfl
  have e2 : (i3 ((y.toBitVec.toNat % 256 : Nat) : Int)).toBitVec = BitVec.ofNat 32 (y.toBitVec.toNat % 256) := by
    show BitVec.ofInt 32 _ = _
    rw [BitVec.ofInt_natCast]
  rw [e1, e2, BitVec.toNat_and, BitVec.toNat_ofNat, BitVec.toNat_ofNat]
  have := Nat.and_two_pow_sub_one_eq_mod y.toBitVec.toNat 8
  have h : y.toBitVec.toNat % 256 < 256 := Nat.mod_lt _ (by decide)
  show y.toBitVec.toNat &&& (2 ^ 8 - 1) = _
  rw [this]
  omega
theorem byt (x : BitVec 32) (k : Nat) (hk : k + 8 ≤ 32) : (BitVec.signExtend 32 (BitVec.signExtend 8 (BitVec.signExtend 32 (BitVec.signExtend 8 (x.sshiftRight k))))) &&& 255#32 = (x >>> k) &&& 255#32 := by
  apply BitVec.eq_of_getLsbD_eq
  intro i hi
  rw [BitVec.getLsbD_and, BitVec.getLsbD_and]
  by_cases q : i < 8
  · congr 1
    rw [BitVec.getLsbD_signExtend, BitVec.getLsbD_signExtend, BitVec.getLsbD_signExtend, BitVec.getLsbD_signExtend, BitVec.getLsbD_sshiftRight, BitVec.getLsbD_ushiftRight]
    have q2 : k + i < 32 := by omega
    simp [hi, q, q2]
  · have : (255#32).getLsbD i = false := by
      rw [BitVec.getLsbD_ofNat]
      have : Nat.testBit 255 i = false := Nat.testBit_lt_two_pow (Nat.lt_of_lt_of_le (by decide : 255 < 2 ^ 8) (Nat.pow_le_pow_right (by decide) (by omega)))
      rw [this, Bool.and_false]
    rw [this, Bool.and_false, Bool.and_false]
def byC (x k : Int32) : Int32 := (x.toUInt32 >>> (k.toUInt32 &&& Int32.toUInt32 31)).toInt32 &&& 255
def byM (x k : Int32) : Int32 := vp_nar .byte (x >>> (k &&& 31)).toInt8.toInt32
theorem by24 (x : Int32) : byM x 24 &&& 255 = byC x 24 := Int32.toBitVec.inj (byt x.toBitVec 24 (by decide))
theorem by16 (x : Int32) : byM x 16 &&& 255 = byC x 16 := Int32.toBitVec.inj (byt x.toBitVec 16 (by decide))
theorem by8 (x : Int32) : byM x 8 &&& 255 = byC x 8 := Int32.toBitVec.inj (byt x.toBitVec 8 (by decide))
theorem by0 (x : Int32) : byM x 0 &&& 255 = byC x 0 := Int32.toBitVec.inj (byt x.toBitVec 0 (by decide))
theorem TPr_put {n : Nat} {bs : Nat → Nat} {tb tape : Nat → Int32} (h : TPr n bs tb (i3 n) tape (i3 n)) (hn : n < 300) {c r : Int32} (e : r &&& 255 = c) : ∃ bs', TPr (n + 1) bs' (upd tb n c) (i3 (n + 1 : Nat)) (upd tape n r) (i3 (n + 1 : Nat)) := by
  obtain ⟨b, hb, eb⟩ := and255 r
  refine ⟨fun k => if k = n then b else bs k, by omega, rfl, rfl, fun k hk => ?_⟩
  by_cases q : k = n
  · subst q
    simp only [if_true]
    rw [upd_same, upd_same]
    exact ⟨hb, by rw [← e, eb], eb⟩
  · simp only [if_neg q]
    rw [upd_diff _ _ q, upd_diff _ _ q]
    exact h.2.2.2 k (by omega)
theorem put4 {z z' n : Nat} (hz : 5 ≤ z) (hz' : 5 ≤ z') {bs : Nat → Nat} {tb tape : Nat → Int32} (h : TPr n bs tb (i3 n) tape (i3 n)) (hn : n + 4 ≤ 300) (x : Int32) : ∃ tb' tape' bs', F7_put z x tb (i3 n) = some (tb', i3 (n + 4 : Nat)) ∧ F10_puts z' x tape (i3 n) = some (tape', i3 (n + 4 : Nat)) ∧ TPr (n + 4) bs' tb' (i3 (n + 4 : Nat)) tape' (i3 (n + 4 : Nat)) := by
  obtain ⟨z, rfl⟩ : ∃ w, z = w + 5 := ⟨z - 5, by omega⟩
  obtain ⟨z', rfl⟩ : ∃ w, z' = w + 5 := ⟨z' - 5, by omega⟩
  obtain ⟨b1, h1⟩ := TPr_put h (by omega) (by24 x)
  obtain ⟨b2, h2⟩ := TPr_put h1 (by omega) (by16 x)
  obtain ⟨b3, h3⟩ := TPr_put h2 (by omega) (by8 x)
  obtain ⟨b4, h4⟩ := TPr_put h3 (by omega) (by0 x)
  have sc : ∀ (w m : Nat) (k : Int32) (tb : Nat → Int32), m < 300 → ¬ k < 0 → F7_put_b3 (z + 5) (w + 1) x k tb (i3 m) = F7_put_b3 (z + 5) w x (k + -8) (upd tb m (byC x k)) (i3 (m + 1 : Nat)) := by
    intro w m k tb hm hk
    show (if k < 0 then _ else _) = _
    rw [if_neg hk, if_neg (by rw [i3_l300, i3_le (by omega) (by omega) (by omega) (by omega)]; omega)]
    simp (disch := omega) only [xg_in, i3_xnN]
    rw [show i3 (m : Int) + 1 = i3 ((m + 1 : Nat) : Int) from by rw [i3_l1, i3_add]; rfl]
    rfl
  have sm : ∀ (w m : Nat) (k : Int32) (tb : Nat → Int32), m < 300 → ¬ k < 0 → F10_puts_b3 (z' + 5) (w + 1) x k tb (i3 m) = F10_puts_b3 (z' + 5) w x (k + -8) (upd tb m (byM x k)) (i3 (m + 1 : Nat)) := by
    intro w m k tb hm hk
    show (if k < 0 then _ else _) = _
    rw [if_neg hk]
    simp (disch := omega) only [xg_in, i3_xnN]
    rw [show i3 (m : Int) + 1 = i3 ((m + 1 : Nat) : Int) from by rw [i3_l1, i3_add]; rfl]
    rfl
  refine ⟨_, _, b4, ?_, ?_, h4⟩
  · unfold F7_put
    rw [sc _ n 24 tb (by omega) (by decide), show (24 : Int32) + -8 = 16 from rfl, sc _ (n + 1) 16 _ (by omega) (by decide), show (16 : Int32) + -8 = 8 from rfl, sc _ (n + 2) 8 _ (by omega) (by decide), show (8 : Int32) + -8 = 0 from rfl, sc _ (n + 3) 0 _ (by omega) (by decide), show (0 : Int32) + -8 = -8 from rfl]
    show (if (-8 : Int32) < 0 then _ else _) = _
    rw [if_pos (by decide)]
  · unfold F10_puts
    rw [sm _ n 24 tape (by omega) (by decide), show (24 : Int32) + -8 = 16 from rfl, sm _ (n + 1) 16 _ (by omega) (by decide), show (16 : Int32) + -8 = 8 from rfl, sm _ (n + 2) 8 _ (by omega) (by decide), show (8 : Int32) + -8 = 0 from rfl, sm _ (n + 3) 0 _ (by omega) (by decide), show (0 : Int32) + -8 = -8 from rfl]
    show (if (-8 : Int32) < 0 then _ else _) = _
    rw [if_pos (by decide)]
theorem call_feed {z z' tN : Nat} (hz : 10 ≤ z) (hz' : 10 ≤ z') {bs : Nat → Nat} {tb tape : Nat → Int32} {tm ta : Int32} (h : TPr tN bs tb tm tape ta) (x1 x2 x3 x4 x5 thrown : Int32) : ∃ v tb' tm' tape' ta' tN' bs', F9_feed z x1 x2 x3 x4 x5 tb tm = some (v, tb', tm') ∧ F10_feed z' x1 x2 x3 x4 x5 thrown tape ta = some (v, 0, tape', ta') ∧ TPr tN' bs' tb' tm' tape' ta' := by
  have hm := h.2.1
  have ha := h.2.2.1
  have h0 := h.1
  subst hm ha
  unfold F9_feed F10_feed
  rw [show i3 (tN : Int) + 20 = i3 ((tN + 20 : Nat) : Int) from by rw [show (20 : Int32) = i3 20 from rfl, i3_add]; rfl]
  by_cases q : tN + 20 ≤ 300
  · obtain ⟨t1, p1, c1, e1, f1, g1⟩ := put4 (z := z) (z' := z') (by omega) (by omega) h (by omega) x1
    obtain ⟨t2, p2, c2, e2, f2, g2⟩ := put4 (z := z) (z' := z') (by omega) (by omega) g1 (by omega) x2
    obtain ⟨t3, p3, c3, e3, f3, g3⟩ := put4 (z := z) (z' := z') (by omega) (by omega) g2 (by omega) x3
    obtain ⟨t4, p4, c4, e4, f4, g4⟩ := put4 (z := z) (z' := z') (by omega) (by omega) g3 (by omega) x4
    obtain ⟨t5, p5, c5, e5, f5, g5⟩ := put4 (z := z) (z' := z') (by omega) (by omega) g4 (by omega) x5
    have hq : i3 ((tN + 20 : Nat) : Int) ≤ 300 := by rw [i3_l300, i3_le (by omega) (by omega) (by omega) (by omega)]; omega
    rw [if_pos hq, if_pos hq, e1, f1]
    simp only [Option.bind_some]
    rw [e2, f2]
    simp only [Option.bind_some]
    rw [e3, f3]
    simp only [Option.bind_some]
    rw [e4, f4]
    simp only [Option.bind_some]
    rw [e5, f5]
    exact ⟨_, _, _, _, _, _, c5, rfl, rfl, g5⟩
  · have hq : ¬ i3 ((tN + 20 : Nat) : Int) ≤ 300 := by rw [i3_l300, i3_le (by omega) (by omega) (by omega) (by omega)]; omega
    rw [if_neg hq, if_neg hq]
    exact ⟨_, _, _, _, _, _, bs, rfl, rfl, h⟩
