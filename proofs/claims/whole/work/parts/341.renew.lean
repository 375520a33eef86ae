/-! ===== all anew ===== -/
theorem F3_restart_ok {z : Nat} (hz : 20 ≤ z) (drawn : Nat → Int32) (turns : Int32) : ∃ d', F3_restart z drawn turns = some (d', 0) ∧ ∀ k, d' k = if k < 8 then 0 else drawn k := by
  have loop : ∀ (rem w k : Nat) (drawn : Nat → Int32), k + rem = 8 → rem < w → ∃ d', F3_restart_b7 z w (i3 k) drawn 0 = some (d', 0) ∧ ∀ j, d' j = if k ≤ j ∧ j < 8 then 0 else drawn j := by
    intro rem
    induction rem with
    | zero =>
      intro w k drawn hk hw
      obtain ⟨w, rfl⟩ : ∃ w', w = w' + 1 := ⟨w - 1, by omega⟩
      refine ⟨drawn, ?_, fun j => by rw [if_neg (by omega)]⟩
      unfold F3_restart_b7
      rw [if_pos (by rw [i3_l8, i3_le (by omega) (by omega) (by omega) (by omega)]; omega)]
    | succ rem ih =>
      intro w k drawn hk hw
      obtain ⟨w, rfl⟩ : ∃ w', w = w' + 1 := ⟨w - 1, by omega⟩
      unfold F3_restart_b7
      rw [if_neg (by rw [i3_l8, i3_le (by omega) (by omega) (by omega) (by omega)]; omega)]
      simp (disch := omega) only [xg_in, i3_xnN]
      rw [i3_l1, i3_add]
      obtain ⟨d', e, h⟩ := ih w (k + 1) (upd drawn k 0) (by omega) (by omega)
      refine ⟨d', e, fun j => ?_⟩
      rw [h j]
      by_cases q : k + 1 ≤ j ∧ j < 8
      · rw [if_pos q, if_pos (by omega)]
      · rw [if_neg q]
        unfold upd
        by_cases q2 : j = k
        · rw [if_pos q2, if_pos (by omega)]
        · rw [if_neg q2, if_neg (by omega)]
  obtain ⟨d', e, h⟩ := loop 8 z 0 drawn (by omega) (by omega)
  exact ⟨d', e, fun k => by
    rw [h k]
    by_cases q : k < 8
    · rw [if_pos (by omega), if_pos q]
    · rw [if_neg (by omega), if_neg q]⟩
theorem F2_clear_ok {z : Nat} (hz : 200 ≤ z) (seen : Nat → Int32) (many : Int32) : ∃ s', F2_clear z seen many = some (s', 0) ∧ ∀ k, s' k = if k < 120 then 0 else seen k := by
  have loop : ∀ (rem w k : Nat) (seen : Nat → Int32), k + rem = 120 → rem < w → ∃ d', F2_clear_b7 z w (i3 k) seen 0 = some (d', 0) ∧ ∀ j, d' j = if k ≤ j ∧ j < 120 then 0 else seen j := by
    intro rem
    induction rem with
    | zero =>
      intro w k seen hk hw
      obtain ⟨w, rfl⟩ : ∃ w', w = w' + 1 := ⟨w - 1, by omega⟩
      refine ⟨seen, ?_, fun j => by rw [if_neg (by omega)]⟩
      unfold F2_clear_b7
      rw [if_pos (by rw [i3_l120, i3_le (by omega) (by omega) (by omega) (by omega)]; omega)]
    | succ rem ih =>
      intro w k seen hk hw
      obtain ⟨w, rfl⟩ : ∃ w', w = w' + 1 := ⟨w - 1, by omega⟩
      unfold F2_clear_b7
      rw [if_neg (by rw [i3_l120, i3_le (by omega) (by omega) (by omega) (by omega)]; omega)]
      simp (disch := omega) only [xg_in, i3_xnN]
      rw [i3_l1, i3_add]
      obtain ⟨d', e, h⟩ := ih w (k + 1) (upd seen k 0) (by omega) (by omega)
      refine ⟨d', e, fun j => ?_⟩
      rw [h j]
      by_cases q : k + 1 ≤ j ∧ j < 120
      · rw [if_pos q, if_pos (by omega)]
      · rw [if_neg q]
        unfold upd
        by_cases q2 : j = k
        · rw [if_pos q2, if_pos (by omega)]
        · rw [if_neg q2, if_neg (by omega)]
  obtain ⟨d', e, h⟩ := loop 120 z 0 seen (by omega) (by omega)
  exact ⟨d', e, fun k => by
    rw [h k]
    by_cases q : k < 120
    · rw [if_pos (by omega), if_pos q]
    · rw [if_neg (by omega), if_neg q]⟩
theorem up01 {α : Type} (f : Nat → α) (a b : α) {s : Nat} (hs : s < 2) : va_up (va_up f 0 a) 1 b s = if s = 0 then a else b := by
  rcases two_cases hs with rfl | rfl
  · rw [va_up_ne _ _ (by decide), va_up_self, if_pos rfl]
  · rw [va_up_self, if_neg (by decide)]
theorem F9_forgetNotes_ok {z : Nat} (hz : 200 ≤ z) (seen : Nat → Nat → Int32) (many : Nat → Int32) : ∃ seen' many', F9_forgetNotes z seen many = some (seen', many') ∧ ∀ s, s < 2 → many' s = 0 ∧ ∀ k, k < 120 → seen' s k = 0 := by
  unfold F9_forgetNotes
  obtain ⟨s1, e1, h1⟩ := F2_clear_ok hz (seen 0) (many 0)
  rw [e1]
  simp only [Option.bind_some]
  obtain ⟨s2, e2, h2⟩ := F2_clear_ok hz (va_up seen 0 s1 1) (va_up many 0 0 1)
  rw [e2]
  simp only [Option.bind_some]
  refine ⟨_, _, rfl, fun s hs => ⟨?_, fun k hk => ?_⟩⟩
  · rw [up01 _ _ _ hs]; split <;> rfl
  · rw [up01 _ _ _ hs]
    split
    · rw [h1 k, if_pos hk]
    · rw [h2 k, if_pos hk]
theorem F4_renew_ok {z K : Nat} (hz : 200 ≤ z) {fo : Nat → Nat} (hK1 : 1 ≤ K) (hK : K ≤ 4) (hfo : ∀ s, s < 2 → fo s ≤ 7) {forces : Nat → Int32} (hf : ∀ s, s < 2 → forces s = i3 (fo s : Nat)) (many : Nat → Int32) (codes : Nat → Nat → Int32) (bm : Nat → Int32) (pdr : Nat → Nat → Int32) (pm' pa pt : Nat → Int32) : ∃ many' codes' bm2 pdr2 pm2 pa2 pt2, F4_renew z (i3 K) forces many codes bm pdr pm' pa pt = some (many', codes', bm2, pdr2, pm2, pa2, pt2) ∧ (∀ s, s < 2 → many' s = i3 (ns K (fo s) : Nat)) ∧ (∀ s i, s < 2 → i < ns K (fo s) → codes' s i = i3 (cd K (fo s) i : Nat)) ∧ (∀ s, s < 2 → bm2 s = 0 ∧ pm2 s = 0 ∧ pa2 s = 0 ∧ pt2 s = 0 ∧ ∀ k, k < 8 → pdr2 s k = 0) := by
  obtain ⟨z, rfl⟩ : ∃ z', z = z' + 3 := ⟨z - 3, by omega⟩
  have l0 := F4_listSplits_ok (many := many) (codes := codes) hz (s := 0) (by omega) hK1 hK (hfo 0 (by omega)) (hf 0 (by omega))
  have l1 := F4_listSplits_ok (many := upd many 0 (i3 (ns K (fo 0) : Nat))) (codes := va_up codes 0 (putL (codes 0) 0 (cl K (fo 0)))) hz (s := 1) (by omega) hK1 hK (hfo 1 (by omega)) (hf 1 (by omega))
  obtain ⟨d0, e0, h0⟩ := F3_restart_ok (z := z + 3) (by omega) (pdr 0) (pt 0)
  obtain ⟨d1, e1, h1⟩ := F3_restart_ok (z := z + 3) (by omega) (va_up pdr 0 d0 1) (va_up pt 0 0 1)
  have c0 : F3_clear (z + 3) (pdr 0) (pm' 0) (pa 0) (pt 0) = some (d0, 0, 0, 0) := by
    unfold F3_clear; rw [e0]; rfl
  have c1 : F3_clear (z + 3) (va_up pdr 0 d0 1) (va_up pm' 0 0 1) (va_up pa 0 0 1) (va_up pt 0 0 1) = some (d1, 0, 0, 0) := by
    unfold F3_clear; rw [e1]; rfl
  refine ⟨upd (upd many 0 (i3 (ns K (fo 0) : Nat))) 1 (i3 (ns K (fo 1) : Nat)), va_up (va_up codes 0 (putL (codes 0) 0 (cl K (fo 0)))) 1 (putL (va_up codes 0 (putL (codes 0) 0 (cl K (fo 0))) 1) 0 (cl K (fo 1))), va_up (va_up bm 0 0) 1 0, va_up (va_up pdr 0 d0) 1 d1, va_up (va_up pm' 0 0) 1 0, va_up (va_up pa 0 0) 1 0, va_up (va_up pt 0 0) 1 0, ?_, fun s hs => ?_, fun s i hs hi => ?_, fun s hs => ⟨?_, ?_, ?_, ?_, fun k hk => ?_⟩⟩
  · unfold F4_renew
    rw [show (0 : Int32) = i3 ((0 : Nat) : Int) from rfl]
    unfold F4_renew_b2
    rw [if_neg (by decide), l0]
    simp (disch := omega) only [xg_in, i3_xnN, Option.bind_some]
    rw [c0]
    simp only [Option.bind_some]
    unfold F4_renew_b2
    rw [show i3 ((0 : Nat) : Int) + 1 = i3 ((1 : Nat) : Int) from rfl, if_neg (by decide), l1]
    simp (disch := omega) only [xg_in, i3_xnN, Option.bind_some]
    rw [c1]
    simp only [Option.bind_some]
    unfold F4_renew_b2
    rw [if_pos (by decide)]
    rfl
  · rcases two_cases hs with rfl | rfl
    · rw [upd_diff _ _ (by decide), upd_same]
    · rw [upd_same]
  · rw [up01 _ _ _ hs]
    rcases two_cases hs with rfl | rfl
    · rw [if_pos rfl, putL_at, if_pos (by unfold ns at hi; omega)]
      rfl
    · rw [if_neg (by decide), putL_at, if_pos (by unfold ns at hi; omega)]
      rfl
  · rw [up01 _ _ _ hs]; split <;> rfl
  · rw [up01 _ _ _ hs]; split <;> rfl
  · rw [up01 _ _ _ hs]; split <;> rfl
  · rw [up01 _ _ _ hs]; split <;> rfl
  · rw [up01 _ _ _ hs]
    split
    · rw [h0 k, if_pos hk]
    · rw [h1 k, if_pos hk]
/-- the reference's own -/
theorem F10_at_ok (s c : Nat) : F10_at (i3 s) (i3 c) = some (i3 ((8 + 24 * s + c : Nat) : Int)) := by
  unfold F10_at
  rw [i3_l8, i3_l24, i3_mul, i3_add, i3_add]
  congr 2
theorem F10_endsBooks_ok {z : Nat} (hz : 20 ≤ z) (told : Nat → Int32) : F10_endsBooks z told = some (upd (upd (upd (upd told 8 0) 15 0) 32 0) 39 0) := by
  have step : ∀ (w s : Nat) (told : Nat → Int32), s < 2 → F10_endsBooks_b2 z (w + 1) (i3 s) told = F10_endsBooks_b2 z w (i3 ((s + 1 : Nat) : Int)) (upd (upd told (8 + 24 * s + 0) 0) (8 + 24 * s + 7) 0) := fun w s told hs => by
    have a1 : F10_at (i3 s) 0 = _ := F10_at_ok s 0
    have a2 : F10_at (i3 s) 7 = _ := F10_at_ok s 7
    rw [F10_endsBooks_b2, if_neg (by rw [i3_l2, i3_le (by omega) (by omega) (by omega) (by omega)]; omega), a1]
    simp only [Option.bind_some]
    rw [a2]
    simp (disch := omega) only [xg_in, i3_xnN, Option.bind_some]
    rw [i3_l1, i3_add]
    rfl
  have last : ∀ (w : Nat) (told : Nat → Int32), F10_endsBooks_b2 z (w + 1) (i3 ((2 : Nat) : Int)) told = some told := fun w told => by
    rw [F10_endsBooks_b2, if_pos (by rw [i3_l2, i3_le (by omega) (by omega) (by omega) (by omega)]; omega)]
  obtain ⟨w, rfl⟩ : ∃ w, z = w + 1 + 1 + 1 := ⟨z - 3, by omega⟩
  have h1 := step (w + 1 + 1) 0 told (by omega)
  have h2 := step (w + 1) 1 (upd (upd told (8 + 24 * 0 + 0) 0) (8 + 24 * 0 + 7) 0) (by omega)
  have h3 := last w (upd (upd (upd (upd told (8 + 24 * 0 + 0) 0) (8 + 24 * 0 + 7) 0) (8 + 24 * 1 + 0) 0) (8 + 24 * 1 + 7) 0)
  exact (h1.trans h2).trans h3
theorem F10_endsNotes_ok {z : Nat} (hz : 400 ≤ z) (notes seen : Nat → Int32) : ∃ notes' seen', F10_endsNotes z notes seen = some (notes', seen') ∧ (∀ s, s < 2 → notes' s = 0) ∧ ∀ k, k < 256 → seen' k = 0 := by
  have loop : ∀ (rem w k : Nat) (seen : Nat → Int32), k + rem = 256 → rem < w → ∃ d', F10_endsNotes_b2 z w (i3 k) notes seen = some (upd (upd notes 0 0) 1 0, d') ∧ ∀ j, j < 256 → d' j = if k ≤ j then 0 else seen j := by
    intro rem
    induction rem with
    | zero =>
      intro w k seen hk hw
      obtain ⟨w, rfl⟩ : ∃ w', w = w' + 1 := ⟨w - 1, by omega⟩
      refine ⟨seen, ?_, fun j hj => by rw [if_neg (by omega)]⟩
      unfold F10_endsNotes_b2
      rw [if_pos (by rw [i3_l256, i3_le (by omega) (by omega) (by omega) (by omega)]; omega)]
      rfl
    | succ rem ih =>
      intro w k seen hk hw
      obtain ⟨w, rfl⟩ : ∃ w', w = w' + 1 := ⟨w - 1, by omega⟩
      unfold F10_endsNotes_b2
      rw [if_neg (by rw [i3_l256, i3_le (by omega) (by omega) (by omega) (by omega)]; omega)]
      simp (disch := omega) only [xg_in, i3_xnN]
      rw [i3_l1, i3_add]
      obtain ⟨d', e, h⟩ := ih w (k + 1) (upd seen k 0) (by omega) (by omega)
      refine ⟨d', e, fun j hj => ?_⟩
      rw [h j hj]
      by_cases q : k + 1 ≤ j
      · rw [if_pos q, if_pos (by omega)]
      · rw [if_neg q]
        unfold upd
        by_cases q2 : j = k
        · rw [if_pos q2, if_pos (by omega)]
        · rw [if_neg q2, if_neg (by omega)]
  obtain ⟨d', e, h⟩ := loop 256 z 0 seen (by omega) (by omega)
  refine ⟨_, d', e, fun s hs => ?_, fun k hk => by rw [h k hk, if_pos (by omega)]⟩
  rcases two_cases hs with rfl | rfl <;> rfl
theorem F10_beginsTurns_ok {z : Nat} (hz : 20 ≤ z) {s : Nat} (hs : s < 2) (turns drawn : Nat → Int32) : ∃ d', F10_beginsTurns z (i3 s) turns drawn = some (upd turns s 0, d') ∧ ∀ j, d' j = if 8 * s ≤ j ∧ j < 8 * s + 8 then 0 else drawn j := by
  have loop : ∀ (rem w k : Nat) (turns drawn : Nat → Int32), k + rem = 8 → rem < w → ∃ d', F10_beginsTurns_b9 z w (i3 s) (i3 k) turns drawn = some (turns, d') ∧ ∀ j, d' j = if 8 * s + k ≤ j ∧ j < 8 * s + 8 then 0 else drawn j := by
    intro rem
    induction rem with
    | zero =>
      intro w k turns drawn hk hw
      obtain ⟨w, rfl⟩ : ∃ w', w = w' + 1 := ⟨w - 1, by omega⟩
      refine ⟨drawn, ?_, fun j => by rw [if_neg (by omega)]⟩
      unfold F10_beginsTurns_b9
      rw [if_pos (by rw [i3_l8, i3_le (by omega) (by omega) (by omega) (by omega)]; omega)]
    | succ rem ih =>
      intro w k turns drawn hk hw
      obtain ⟨w, rfl⟩ : ∃ w', w = w' + 1 := ⟨w - 1, by omega⟩
      unfold F10_beginsTurns_b9
      rw [if_neg (by rw [i3_l8, i3_le (by omega) (by omega) (by omega) (by omega)]; omega), i3_8]
      simp (disch := omega) only [xg_in, i3_xnN]
      rw [i3_l1, i3_add]
      obtain ⟨d', e, h⟩ := ih w (k + 1) turns (upd drawn (8 * s + k) 0) (by omega) (by omega)
      refine ⟨d', e, fun j => ?_⟩
      rw [h j]
      by_cases q : 8 * s + (k + 1) ≤ j ∧ j < 8 * s + 8
      · rw [if_pos q, if_pos (by omega)]
      · rw [if_neg q]
        unfold upd
        by_cases q2 : j = 8 * s + k
        · rw [if_pos q2, if_pos (by omega)]
        · rw [if_neg q2, if_neg (by omega)]
  obtain ⟨d', e, h⟩ := loop 8 z 0 (upd turns s 0) drawn (by omega) (by omega)
  refine ⟨d', ?_, fun j => by
    rw [h j]
    by_cases q : 8 * s ≤ j ∧ j < 8 * s + 8
    · rw [if_pos (by omega), if_pos q]
    · rw [if_neg (by omega), if_neg q]⟩
  unfold F10_beginsTurns
  rw [xg_in _ (by omega) (by omega) (by omega), i3_xnN (by omega)]
  exact e
theorem F10_twoTurns_ok {z : Nat} (hz : 20 ≤ z) (turns drawn : Nat → Int32) : ∃ t1 d1 t2 d2, F10_beginsTurns z 0 turns drawn = some (t1, d1) ∧ F10_beginsTurns z 1 t1 d1 = some (t2, d2) ∧ (∀ s, s < 2 → t2 s = 0) ∧ ∀ j, j < 16 → d2 j = 0 := by
  obtain ⟨d1, e1, h1⟩ := F10_beginsTurns_ok hz (s := 0) (by omega) turns drawn
  obtain ⟨d2, e2, h2⟩ := F10_beginsTurns_ok hz (s := 1) (by omega) (upd turns 0 0) d1
  refine ⟨_, d1, _, d2, e1, e2, fun s hs => ?_, fun j hj => ?_⟩
  · rcases two_cases hs with rfl | rfl <;> rfl
  · rw [h2 j]
    by_cases q : j < 8
    · rw [if_neg (by omega), h1 j, if_pos (by omega)]
    · rw [if_pos (by omega)]
theorem F10_begins_ok {z K : Nat} (hz : 1000 ≤ z) {W : Nat → Int} {t : Int} {fo : Nat → Nat} {told many eights gains notes seen turns drawn : Nat → Int32} {il : Int32} (hV : Vd K W t) (hfo : ∀ s, s < 2 → fo s ≤ 7) (h0 : told 0 = i3 K) (hwt : ∀ k, k < K → told (1 + k) = i3 (W k)) (h5 : ∀ s, s < 2 → told (5 + s) = i3 (fo s)) (h7 : told 7 = i3 t) : ∃ told' many' eights' gains' notes' seen' turns' drawn', F10_begins z told many eights gains notes seen turns drawn il = some (told', many', eights', gains', notes', seen', turns', drawn', 0) ∧ SM K W t fo told' many' eights' gains' ∧ (∀ s, s < 2 → told' (8 + 24 * s) = 0 ∧ told' (8 + 24 * s + 7) = 0 ∧ notes' s = 0 ∧ turns' s = 0) ∧ (∀ k, k < 256 → seen' k = 0) ∧ (∀ j, j < 16 → drawn' j = 0) ∧ told' 0 = told 0 := by
  have hK := hV.2.1
  obtain ⟨notes', seen', en, hn1, hn2⟩ := F10_endsNotes_ok (z := z) (by omega) notes seen
  obtain ⟨t1, d1, t2, d2, et1, et2, ht, hd⟩ := F10_twoTurns_ok (z := z) (by omega) turns drawn
  obtain ⟨many', eights', gains', el, hM⟩ := F10_lays_ok (told := upd (upd (upd (upd told 8 0) 15 0) 32 0) 39 0) (many := many) (eights := eights) (gains := gains) (il := il) hz hV hfo (by rw [← h0]; rfl) (fun k hk => by
    rw [← hwt k hk]
    unfold upd
    rw [if_neg (by omega), if_neg (by omega), if_neg (by omega), if_neg (by omega)]) (fun s hs => by
    rw [← h5 s hs]
    unfold upd
    rw [if_neg (by omega), if_neg (by omega), if_neg (by omega), if_neg (by omega)]) (by rw [← h7]; rfl)
  refine ⟨_, many', eights', gains', notes', seen', t2, d2, ?_, hM, fun s hs => ⟨?_, ?_, hn1 s hs, ht s hs⟩, hn2, hd, rfl⟩
  · unfold F10_begins
    rw [F10_endsBooks_ok (by omega)]
    simp only [Option.bind_some]
    rw [en]
    simp only [Option.bind_some]
    rw [et1]
    simp only [Option.bind_some]
    rw [et2]
    simp only [Option.bind_some]
    rw [el]
    rfl
  · rcases two_cases hs with rfl | rfl <;> rfl
  · rcases two_cases hs with rfl | rfl <;> rfl
