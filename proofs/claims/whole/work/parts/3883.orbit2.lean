/-! ===== even plans: sizes of shapes ===== -/
theorem chk_Hat {K f p1 p2 p3 : Nat} (hK1 : 1 ≤ K) (hK : K ≤ 4) (h1 : p1 < 2) (h2 : p2 < 3) (h3 : p3 < 4) (hf : f ≤ 7) {x : Nat} (hx : x ∈ (cl K f).map (lsa K (ptE (p1 * 4 + p2 * 16 + p3 * 64)))) : 24 % cnL x ((cl K f).map (lsa K (ptE (p1 * 4 + p2 * 16 + p3 * 64)))) = 0 := by
  have go : ∀ n, (List.range 2).all (fun p1 => (List.range 3).all (fun p2 => (List.range 4).all (fun p3 => (List.range 8).all (fun f => chkH n (p1 * 4 + p2 * 16 + p3 * 64) f)))) = true → n < 4 → x ∈ (cl (n + 1) f).map (lsa (n + 1) (ptE (p1 * 4 + p2 * 16 + p3 * 64))) → 24 % cnL x ((cl (n + 1) f).map (lsa (n + 1) (ptE (p1 * 4 + p2 * 16 + p3 * 64)))) = 0 := by
    intro n hn hn4 hx
    have a1 := List.all_eq_true.mp hn p1 (List.mem_range.mpr h1)
    have a2 := List.all_eq_true.mp a1 p2 (List.mem_range.mpr h2)
    have a3 := List.all_eq_true.mp a2 p3 (List.mem_range.mpr h3)
    have a4 := List.all_eq_true.mp a3 f (List.mem_range.mpr (by omega))
    unfold chkH at a4
    rw [frc_eq, fil_cl hn4 (by omega)] at a4
    exact Nat.eq_of_beq_eq_true (List.all_eq_true.mp a4 x hx)
  rcases (show K = 1 ∨ K = 2 ∨ K = 3 ∨ K = 4 by omega) with rfl | rfl | rfl | rfl
  · exact go 0 chk_H0 (by omega) hx
  · exact go 1 chk_H1 (by omega) hx
  · exact go 2 chk_H2 (by omega) hx
  · exact go 3 chk_H3 (by omega) hx
theorem cf_cons (p : Nat → Bool) : ∀ n, cf p (n + 1) = (if p 0 then 1 else 0) + cf (fun j => p (j + 1)) n := by
  intro n
  induction n with
  | zero => show 0 + (if p 0 then 1 else 0) = (if p 0 then 1 else 0) + 0; omega
  | succ n ih =>
    show cf p (n + 1) + (if p (n + 1) then 1 else 0) = (if p 0 then 1 else 0) + (cf (fun j => p (j + 1)) n + (if p (n + 1) then 1 else 0))
    rw [ih]; omega
theorem cnL_cf (x : Nat) (g : Nat → Nat) : ∀ (l : List Nat), cnL x (l.map g) = cf (fun j => Nat.beq x (g (l.getD j 0))) l.length
  | [] => rfl
  | c :: l => by
    show cnL x (l.map g) + (match Nat.beq x (g c) with | true => 1 | false => 0) = cf (fun j => Nat.beq x (g ((c :: l).getD j 0))) (l.length + 1)
    rw [cf_cons, cnL_cf x g l]
    show _ = (if Nat.beq x (g c) then 1 else 0) + cf (fun j => Nat.beq x (g (l.getD j 0))) l.length
    cases Nat.beq x (g c)
    · show _ + 0 = 0 + _; omega
    · show _ + 1 = 1 + _; omega
theorem shN_pos {K f i : Nat} {W : Nat → Int} (hi : i < ns K f) : 1 ≤ shN K W f i ∧ shN K W f i ≤ ns K f := by
  have h1 := cf_mono (p := fun j => decide (li K W f i = li K W f j)) (i := i + 1) (j := ns K f) hi
  have h2 : cf (fun j => decide (li K W f i = li K W f j)) (i + 1) = cf (fun j => decide (li K W f i = li K W f j)) i + 1 := by
    show _ + (if decide (li K W f i = li K W f i) then 1 else 0) = _
    rw [decide_eq_true rfl]; rfl
  have h3 := cf_le (fun j => decide (li K W f i = li K W f j)) (ns K f)
  unfold shN
  omega
/-- 24 over the size of a shape -/
def hN (K : Nat) (W : Nat → Int) (f i : Nat) : Int := ((24 / shN K W f i : Nat) : Int)
theorem hN_ok {K f i : Nat} (hK1 : 1 ≤ K) (hK : K ≤ 4) (hf : f ≤ 7) {W : Nat → Int} (hi : i < ns K f) : (shN K W f i : Int) * hN K W f i = 24 := by
  obtain ⟨p1, p2, p3, h1, h2, h3, hP⟩ := pat W
  have e : shN K W f i = cnL (ls K W (cd K f i)) ((cl K f).map (lsa K (ptE (p1 * 4 + p2 * 16 + p3 * 64)))) := by
    rw [cnL_cf]
    refine cf_congr (fun j hj => ?_)
    have h := li_ls hK1 hK hf (W := W) hi hj
    show decide (li K W f i = li K W f j) = Nat.beq (ls K W (cd K f i)) (lsa K (ptE (p1 * 4 + p2 * 16 + p3 * 64)) (cd K f j))
    rw [← ls_pt hP hK]
    by_cases q : li K W f i = li K W f j
    · rw [decide_eq_true q, h.mp q]
      exact (Nat.beq_refl _).symm
    · rw [decide_eq_false q]
      cases c : Nat.beq (ls K W (cd K f i)) (ls K W (cd K f j))
      · rfl
      · exact absurd (h.mpr (Nat.eq_of_beq_eq_true c)) q
  have hx : 24 % shN K W f i = 0 := by
    rw [e]
    refine chk_Hat hK1 hK h1 h2 h3 hf ?_
    rw [ls_pt hP hK]
    exact List.mem_map_of_mem (cd_mem hi)
  unfold hN
  rw [← Int.natCast_mul, Nat.mul_div_cancel' (Nat.dvd_of_mod_eq_zero hx)]
  rfl
theorem shN_like {K f i j : Nat} {W : Nat → Int} (h : li K W f i = li K W f j) : shN K W f i = shN K W f j := by
  unfold shN
  rw [h]
/-- the number of a split with two fields changed -/
def swI (K f a b i : Nat) : Nat := (nmb K f (i3 (sw K a b (cd K f i) : Nat))).toNat
theorem swI_ok {K f i a b : Nat} (hK1 : 1 ≤ K) (hK : K ≤ 4) (hf : f ≤ 7) (hab : a < b) (hb : b < K) (hi : i < ns K f) : swI K f a b i < ns K f ∧ cd K f (swI K f a b i) = sw K a b (cd K f i) := by
  have hm := cl_mem.mp (sw_facts hK1 hK hf (cd_mem hi) hab hb).1
  obtain ⟨j, hj, e⟩ := cd_surj hm.1 hm.2
  have e2 := nmb_cd hK hj
  have e3 : swI K f a b i = j := by
    unfold swI
    rw [← e, e2]
    rfl
  rw [e3]
  exact ⟨hj, e⟩
theorem swI_swI {K f i a b : Nat} (hK1 : 1 ≤ K) (hK : K ≤ 4) (hf : f ≤ 7) (hab : a < b) (hb : b < K) (hi : i < ns K f) : swI K f a b (swI K f a b i) = i := by
  have h1 := swI_ok hK1 hK hf hab hb hi
  have h2 := swI_ok hK1 hK hf hab hb h1.1
  refine cd_inj h2.1 hi ?_
  rw [h2.2, h1.2, (sw_facts hK1 hK hf (cd_mem hi) hab hb).2.1]
theorem ls_sw {K f c a b : Nat} (hK1 : 1 ≤ K) (hK : K ≤ 4) (hf : f ≤ 7) (hc : c ∈ cl K f) (hab : a < b) (hb : b < K) {W : Nat → Int} (hW : W a = W b) : ls K W (sw K a b c) = ls K W c :=
  (ls_iff hK1 hK hf (sw_facts hK1 hK hf hc hab hb).1 hc).mp (fun g _ => sw_sm hK1 hK hf hc hab hb hW (fun w d => if w = W g then ((5 ^ d : Nat) : Int) else 0))
theorem li_swI {K f i a b : Nat} (hK1 : 1 ≤ K) (hK : K ≤ 4) (hf : f ≤ 7) (hab : a < b) (hb : b < K) {W : Nat → Int} (hW : W a = W b) (hi : i < ns K f) : li K W f (swI K f a b i) = li K W f i := by
  have h1 := swI_ok hK1 hK hf hab hb hi
  refine (li_ls hK1 hK hf h1.1 hi).mpr ?_
  rw [h1.2, ls_sw hK1 hK hf (cd_mem hi) hab hb hW]
/-- how many of e's shape hold v on k -/
def NN (K : Nat) (W : Nat → Int) (f e k v : Nat) : Int := sm (ns K f) (fun i => if dg K (cd K f i) k = v ∧ li K W f e = li K W f i then 1 else 0)
theorem NN_sw {K f e a b v : Nat} (hK1 : 1 ≤ K) (hK : K ≤ 4) (hf : f ≤ 7) (hab : a < b) (hb : b < K) {W : Nat → Int} (hW : W a = W b) : NN K W f e a v = NN K W f e b v := by
  unfold NN
  rw [← sm_inv (n := ns K f) (swI K f a b) (fun i hi => (swI_ok hK1 hK hf hab hb hi).1) (fun i hi => swI_swI hK1 hK hf hab hb hi) (fun i => if dg K (cd K f i) a = v ∧ li K W f e = li K W f i then 1 else 0)]
  refine sm_congr (fun i hi => ?_)
  rw [li_swI hK1 hK hf hab hb hW hi, (swI_ok hK1 hK hf hab hb hi).2, (sw_facts hK1 hK hf (cd_mem hi) hab hb).2.2 a (by omega), show trn a b a = b from if_pos rfl]
theorem NN_like {K f e k k' v : Nat} (hK1 : 1 ≤ K) (hK : K ≤ 4) (hf : f ≤ 7) (hk : k < K) (hk' : k' < K) {W : Nat → Int} (hW : W k' = W k) : NN K W f e k' v = NN K W f e k v := by
  rcases Nat.lt_trichotomy k k' with q | q | q
  · exact (NN_sw hK1 hK hf q hk' hW.symm).symm
  · rw [q]
  · exact NN_sw hK1 hK hf q hk hW
/-- on how many fields like k a split holds v -/
def cntK (K : Nat) (W : Nat → Int) (c k v : Nat) : Int := sm K (fun k' => if W k' = W k ∧ dg K c k' = v then 1 else 0)
theorem cntK_like {K f i j k v : Nat} (hK1 : 1 ≤ K) (hK : K ≤ 4) (hf : f ≤ 7) {W : Nat → Int} (hi : i < ns K f) (hj : j < ns K f) (h : li K W f i = li K W f j) : cntK K W (cd K f i) k v = cntK K W (cd K f j) k v := by
  have g : ∀ i, i < ns K f → cntK K W (ls K W (cd K f i)) k v = cntK K W (cd K f i) k v := fun i hi => ls_keep hK1 hK hf (fun c => cntK K W c k v) (fun c a b hc hab hb e => sw_sm hK1 hK hf hc hab hb e (fun w d => if w = W k ∧ d = v then 1 else 0)) (cd_mem hi)
  rw [← g i hi, ← g j hj, (li_ls hK1 hK hf hi hj).mp h]
theorem al_NN {K f e k v : Nat} (hK1 : 1 ≤ K) (hK : K ≤ 4) (hf : f ≤ 7) {W : Nat → Int} (he : e < ns K f) (hk : k < K) : al K W k * NN K W f e k v = (shN K W f e : Int) * cntK K W (cd K f e) k v := by
  have h1 : al K W k * NN K W f e k v = sm K (fun k' => if W k' = W k then NN K W f e k' v else 0) := by
    unfold al
    rw [Int.mul_comm, ← sm_mul]
    refine sm_congr (fun k' hk' => ?_)
    by_cases q : W k' = W k
    · rw [if_pos q, if_pos q, Int.mul_one, NN_like hK1 hK hf hk hk' q]
    · rw [if_neg q, if_neg q, Int.mul_zero]
  have h2 : ∀ k', k' < K → (if W k' = W k then NN K W f e k' v else 0) = sm (ns K f) (fun i => if W k' = W k ∧ dg K (cd K f i) k' = v then (if li K W f e = li K W f i then 1 else 0) else 0) := by
    intro k' _
    by_cases q : W k' = W k
    · rw [if_pos q]
      refine sm_congr (fun i _ => ?_)
      by_cases a : dg K (cd K f i) k' = v
      · rw [if_pos (show W k' = W k ∧ _ from ⟨q, a⟩)]
        by_cases b : li K W f e = li K W f i
        · rw [if_pos b, if_pos ⟨a, b⟩]
        · rw [if_neg b, if_neg (fun h => b h.2)]
      · rw [if_neg (fun h => a h.1), if_neg (fun h => a h.2)]
    · rw [if_neg q]
      exact (sm_zero (fun i _ => if_neg (fun h => q h.1))).symm
  have h3 : ∀ i, i < ns K f → sm K (fun k' => if W k' = W k ∧ dg K (cd K f i) k' = v then (if li K W f e = li K W f i then 1 else 0) else 0) = cntK K W (cd K f e) k v * (if decide (li K W f e = li K W f i) then 1 else 0) := by
    intro i hi
    by_cases b : li K W f e = li K W f i
    · rw [decide_eq_true b, if_pos (show true = true from rfl), Int.mul_one, cntK_like hK1 hK hf he hi b]
      exact sm_congr (fun k' _ => by rw [if_pos b])
    · rw [decide_eq_false b, if_neg (show ¬ false = true by decide), Int.mul_zero]
      refine sm_zero (fun k' _ => ?_)
      rw [if_neg b]
      split <;> rfl
  rw [h1, sm_congr h2, sm_comm, sm_congr h3, sm_mul, Int.mul_comm]
  unfold shN
  rw [cf_sm]
theorem hN_NN {K f e k v : Nat} (hK1 : 1 ≤ K) (hK : K ≤ 4) (hf : f ≤ 7) {W : Nat → Int} (he : e < ns K f) (hk : k < K) : hN K W f e * NN K W f e k v = 2 * (12 / al K W k) * cntK K W (cd K f e) k v := by
  have h1 := al_NN hK1 hK hf (W := W) (v := v) he hk
  have h2 := hN_ok hK1 hK hf (W := W) he
  have ab := al_bd hK hk W
  have a12 := al_12 ab.1 ab.2
  rw [← a12.2.2.1]
  refine Int.eq_of_mul_eq_mul_left (a := 24) (by decide) ?_
  calc 24 * (hN K W f e * NN K W f e k v) = (al K W k * (24 / al K W k)) * (hN K W f e * NN K W f e k v) := by rw [a12.2.1]
    _ = (24 / al K W k) * hN K W f e * (al K W k * NN K W f e k v) := by
      rw [Int.mul_comm (al K W k), Int.mul_assoc, Int.mul_assoc, Int.mul_left_comm (al K W k)]
    _ = (24 / al K W k) * hN K W f e * ((shN K W f e : Int) * cntK K W (cd K f e) k v) := by rw [h1]
    _ = ((shN K W f e : Int) * hN K W f e) * ((24 / al K W k) * cntK K W (cd K f e) k v) := by
      rw [Int.mul_comm (24 / al K W k), Int.mul_assoc, Int.mul_left_comm (24 / al K W k), ← Int.mul_assoc, Int.mul_comm (hN K W f e)]
    _ = 24 * ((24 / al K W k) * cntK K W (cd K f e) k v) := by rw [h2]
/-- what each split gets of a plan made even -/
def evs (K : Nat) (W : Nat → Int) (f : Nat) (pI : Nat → Nat) (w : Nat → Int) (n i : Nat) : Int := sm n (fun e => if li K W f (pI e) = li K W f i then w e * hN K W f (pI e) else 0)
theorem evs_mass {K f n : Nat} (hK1 : 1 ≤ K) (hK : K ≤ 4) (hf : f ≤ 7) {W : Nat → Int} {pI : Nat → Nat} {w : Nat → Int} (hp : ∀ e, e < n → pI e < ns K f) {k v : Nat} (hk : k < K) : mss K (cd K f) (evs K W f pI w n) (ns K f) k v = 2 * lvl K W (mss K (fun e => cd K f (pI e)) w n) k v := by
  have h1 : ∀ i, i < ns K f → (if dg K (cd K f i) k = v then evs K W f pI w n i else 0) = sm n (fun e => w e * hN K W f (pI e) * (if dg K (cd K f i) k = v ∧ li K W f (pI e) = li K W f i then 1 else 0)) := by
    intro i _
    by_cases a : dg K (cd K f i) k = v
    · rw [if_pos a]
      refine sm_congr (fun e _ => ?_)
      by_cases b : li K W f (pI e) = li K W f i
      · rw [if_pos b, if_pos ⟨a, b⟩, Int.mul_one]
      · rw [if_neg b, if_neg (fun h => b h.2), Int.mul_zero]
    · rw [if_neg a]
      refine (sm_zero (fun e _ => ?_)).symm
      rw [if_neg (fun h => a h.1), Int.mul_zero]
  have h2 : ∀ e, e < n → sm (ns K f) (fun i => w e * hN K W f (pI e) * (if dg K (cd K f i) k = v ∧ li K W f (pI e) = li K W f i then 1 else 0)) = 2 * (12 / al K W k) * (w e * cntK K W (cd K f (pI e)) k v) := by
    intro e he
    rw [sm_mul]
    show w e * hN K W f (pI e) * NN K W f (pI e) k v = _
    rw [Int.mul_assoc, hN_NN hK1 hK hf (hp e he) hk, Int.mul_left_comm]
  have h3 : ∀ k', k' < K → (if W k' = W k then mss K (fun e => cd K f (pI e)) w n k' v else 0) = sm n (fun e => w e * (if W k' = W k ∧ dg K (cd K f (pI e)) k' = v then 1 else 0)) := by
    intro k' _
    by_cases q : W k' = W k
    · rw [if_pos q]
      refine sm_congr (fun e _ => ?_)
      by_cases a : dg K (cd K f (pI e)) k' = v
      · rw [if_pos a, if_pos ⟨q, a⟩, Int.mul_one]
      · rw [if_neg a, if_neg (fun h => a h.2), Int.mul_zero]
    · rw [if_neg q]
      refine (sm_zero (fun e _ => ?_)).symm
      rw [if_neg (fun h => q h.1), Int.mul_zero]
  have h4 : ∀ e, e < n → sm K (fun k' => w e * (if W k' = W k ∧ dg K (cd K f (pI e)) k' = v then 1 else 0)) = w e * cntK K W (cd K f (pI e)) k v := fun e _ => sm_mul _ _ _
  show sm (ns K f) (fun i => if dg K (cd K f i) k = v then evs K W f pI w n i else 0) = _
  rw [sm_congr h1, sm_comm, sm_congr h2, sm_mul]
  unfold lvl
  rw [sm_congr h3, sm_comm, sm_congr h4, Int.mul_assoc, Int.mul_comm (12 / al K W k)]
theorem evs_sum {K f n : Nat} (hK1 : 1 ≤ K) (hK : K ≤ 4) (hf : f ≤ 7) {W : Nat → Int} {pI : Nat → Nat} {w : Nat → Int} (hp : ∀ e, e < n → pI e < ns K f) : sm (ns K f) (evs K W f pI w n) = 24 * sm n w := by
  have h1 : ∀ i, i < ns K f → evs K W f pI w n i = sm n (fun e => w e * hN K W f (pI e) * (if decide (li K W f (pI e) = li K W f i) then 1 else 0)) := by
    intro i _
    refine sm_congr (fun e _ => ?_)
    by_cases b : li K W f (pI e) = li K W f i
    · rw [if_pos b, decide_eq_true b, if_pos rfl, Int.mul_one]
    · rw [if_neg b, decide_eq_false b, if_neg (by decide), Int.mul_zero]
  rw [sm_congr h1, sm_comm, ← sm_mul]
  refine sm_congr (fun e he => ?_)
  rw [sm_mul, ← cf_sm]
  show w e * hN K W f (pI e) * (shN K W f (pI e) : Int) = _
  rw [Int.mul_assoc, Int.mul_comm (hN K W f (pI e)), hN_ok hK1 hK hf (hp e he), Int.mul_comm]
