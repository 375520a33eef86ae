/-! ===== all splits, by their numbers ===== -/
def dsum : Nat → Nat → Nat
  | 0, _ => 0
  | K + 1, c => c % 8 + dsum K (c / 8)
/-- all codes of K digits that come to f, the least first -/
def cl (K f : Nat) : List Nat := (List.range (8 ^ K)).filter (fun c => dsum K c == f)
def fil : Nat → Nat → Nat → List Nat
  | 0, l, so => [8 * so + l]
  | r + 1, l, so => (List.range (l + 1)).flatMap (fun n => fil r (l - n) (8 * so + n))
def ns (K f : Nat) : Nat := (cl K f).length
def cd (K f i : Nat) : Nat := (cl K f).getD i 0
theorem chk_fil : (List.range 4).all (fun K => (List.range 8).all (fun f => fil K f 0 == cl (K + 1) f)) = true := by decide +kernel
theorem fil_cl {K f : Nat} (hK : K < 4) (hf : f < 8) : fil K f 0 = cl (K + 1) f := by
  have h1 := List.all_eq_true.mp chk_fil K (List.mem_range.mpr hK)
  have h2 := List.all_eq_true.mp h1 f (List.mem_range.mpr hf)
  exact eq_of_beq h2
def hdI : List Nat → Int
  | [] => -1
  | a :: _ => a
/-- the next greater one -/
def nxt (K c : Nat) : Int := if K ≤ 1 then -1 else if 0 < c % 8 then (c + 7 : Nat) else if K ≤ 2 then -1 else if 0 < c / 8 % 8 then (c - c / 8 % 8 * 8 + 64 + c / 8 % 8 - 1 : Nat) else if K ≤ 3 then -1 else if 0 < c / 64 % 8 then (c - c / 64 % 8 * 64 + 512 + c / 64 % 8 - 1 : Nat) else -1
def chn (K : Nat) : List Nat → Bool
  | [] => true
  | a :: l => decide (a < 4096) && (nxt K a == hdI l) && chn K l
theorem chk_chn : (List.range 4).all (fun K => (List.range 8).all (fun f => chn (K + 1) (cl (K + 1) f) && (hdI (cl (K + 1) f) == (f : Int)) && decide ((cl (K + 1) f).length ≤ 120) && decide (0 < (cl (K + 1) f).length))) = true := by decide +kernel
theorem cl_facts {K f : Nat} (hK1 : 1 ≤ K) (hK : K ≤ 4) (hf : f ≤ 7) : chn K (cl K f) = true ∧ hdI (cl K f) = (f : Int) ∧ ns K f ≤ 120 ∧ 0 < ns K f := by
  obtain ⟨K, rfl⟩ : ∃ K', K = K' + 1 := ⟨K - 1, by omega⟩
  have h1 := List.all_eq_true.mp chk_chn K (List.mem_range.mpr (by omega))
  have h2 := List.all_eq_true.mp h1 f (List.mem_range.mpr (by omega))
  simp only [Bool.and_eq_true, decide_eq_true_eq, beq_iff_eq] at h2
  exact ⟨h2.1.1.1, h2.1.1.2, h2.1.2, h2.2⟩
theorem cl_mem {K f c : Nat} : c ∈ cl K f ↔ c < 8 ^ K ∧ dsum K c = f := by
  unfold cl
  rw [List.mem_filter, List.mem_range, beq_iff_eq]
theorem pow8_le {K : Nat} (hK : K ≤ 4) : 8 ^ K ≤ 4096 := by
  have : 8 ^ K ≤ 8 ^ 4 := Nat.pow_le_pow_right (by decide) hK
  omega
theorem cd_mem {K f i : Nat} (hi : i < ns K f) : cd K f i ∈ cl K f := by
  unfold cd
  rw [List.getD_eq_getElem?_getD, List.getElem?_eq_getElem hi]
  exact List.getElem_mem hi
theorem cd_lt {K f i : Nat} (hK : K ≤ 4) (hi : i < ns K f) : cd K f i < 4096 := by
  have := (cl_mem.mp (cd_mem hi)).1
  have := pow8_le hK
  omega
theorem cl_sorted (K f : Nat) : (cl K f).Pairwise (· < ·) := List.Pairwise.filter _ List.pairwise_lt_range
theorem cd_mono {K f i j : Nat} (hij : i < j) (hj : j < ns K f) : cd K f i < cd K f j := by
  have h := List.pairwise_iff_getElem.mp (cl_sorted K f) i j (Nat.lt_trans hij hj) hj hij
  unfold cd
  rw [List.getD_eq_getElem?_getD, List.getD_eq_getElem?_getD, List.getElem?_eq_getElem hj, List.getElem?_eq_getElem (Nat.lt_trans hij hj)]
  exact h
theorem cd_inj {K f i j : Nat} (hi : i < ns K f) (hj : j < ns K f) (h : cd K f i = cd K f j) : i = j := by
  rcases Nat.lt_trichotomy i j with q | q | q
  · have := cd_mono q hj; omega
  · exact q
  · have := cd_mono q hi; omega
theorem cd_surj {K f c : Nat} (h1 : c < 8 ^ K) (h2 : dsum K c = f) : ∃ i, i < ns K f ∧ cd K f i = c := by
  obtain ⟨i, hi, e⟩ := List.getElem_of_mem (cl_mem.mpr ⟨h1, h2⟩)
  refine ⟨i, hi, ?_⟩
  unfold cd
  rw [List.getD_eq_getElem?_getD, List.getElem?_eq_getElem hi]
  exact e
/-- a list laid into a row of ints -/
def putL (e : Nat → Int32) (p : Nat) : List Nat → (Nat → Int32)
  | [] => e
  | c :: l => putL (upd e p (i3 c)) (p + 1) l
theorem putL_append (l l' : List Nat) : ∀ (e : Nat → Int32) (p : Nat), putL e p (l ++ l') = putL (putL e p l) (p + l.length) l' := by
  induction l with
  | nil => intro e p; rfl
  | cons c l ih =>
    intro e p
    show putL (upd e p (i3 c)) (p + 1) (l ++ l') = putL (putL (upd e p (i3 c)) (p + 1) l) (p + (l.length + 1)) l'
    rw [ih, show p + 1 + l.length = p + (l.length + 1) by omega]
theorem putL_at (l : List Nat) : ∀ (e : Nat → Int32) (p i : Nat), putL e p l i = if p ≤ i ∧ i < p + l.length then i3 (l.getD (i - p) 0 : Nat) else e i := by
  induction l with
  | nil =>
    intro e p i
    rw [if_neg (by simp only [List.length_nil]; omega)]; rfl
  | cons c l ih =>
    intro e p i
    show putL (upd e p (i3 c)) (p + 1) l i = _
    rw [ih]
    by_cases h1 : i = p
    · subst h1
      rw [if_neg (by omega), if_pos (by simp only [List.length_cons]; omega), upd_same, Nat.sub_self]
      rfl
    · by_cases h2 : p + 1 ≤ i ∧ i < p + 1 + l.length
      · rw [if_pos h2, if_pos (by simp only [List.length_cons]; omega)]
        obtain ⟨d, hd⟩ : ∃ d, i - p = d + 1 := ⟨i - p - 1, by omega⟩
        rw [hd, show i - (p + 1) = d by omega]
        rfl
      · rw [if_neg h2, if_neg (by simp only [List.length_cons]; omega), upd_diff _ _ h1]
theorem F4_following_ok {z K c : Nat} (hz : 5 ≤ z) (hK1 : 1 ≤ K) (hK : K ≤ 4) (hc : c < 4096) : F4_following z (i3 c) (i3 K) = some (i3 (nxt K c)) := by
  have e0 : (i3 (c : Int) >>> ((0 : Int32) &&& 31)) &&& 7 = i3 ((c % 8 : Nat) : Int) := by
    have := i3_shr (j := 0) hc (by omega)
    rw [Nat.pow_zero, Nat.div_one] at this
    exact this
  have e3 : (i3 (c : Int) >>> ((i3 3 : Int32) &&& 31)) &&& 7 = i3 ((c / 8 % 8 : Nat) : Int) := i3_shr (j := 1) hc (by omega)
  have e6 : (i3 (c : Int) >>> ((i3 6 : Int32) &&& 31)) &&& 7 = i3 ((c / 64 % 8 : Nat) : Int) := i3_shr (j := 2) hc (by omega)
  have b0 : c % 8 < 8 := Nat.mod_lt _ (by decide)
  have b3 : c / 8 % 8 < 8 := Nat.mod_lt _ (by decide)
  have b6 : c / 64 % 8 < 8 := Nat.mod_lt _ (by decide)
  have hb : ∀ (x j h : Nat) (x2 : Int32), x2 = i3 ((3 * j : Nat) : Int) → j < 4 → h < 8 → h * 8 ^ j ≤ c → F4_following_b25 z (i3 c) x2 (i3 h) (i3 K) = some (i3 ((c : Int) - (h * 8 ^ j : Nat) + (8 * 8 ^ j : Nat) + h - 1)) := by
    intro x j h x2 e hj hh hle
    subst e
    unfold F4_following_b25
    rw [i3_shl (by omega) hj, show (8 : Int32) = i3 ((8 : Nat) : Int) from rfl, i3_shl (by omega) hj, i3_l1, i3_sub, i3_add, i3_add, i3_sub]
  obtain ⟨z, rfl⟩ : ∃ z', z = z' + 5 := ⟨z - 5, by omega⟩
  unfold F4_following nxt
  unfold F4_following_b2
  simp only [i3_l3, i3_l1, i3_sub, i3_mul]
  by_cases k1 : K ≤ 1
  · rw [if_pos (by rw [i3_l0, i3_le (by omega) (by omega) (by omega) (by omega)]; omega), if_pos k1]; rfl
  · rw [if_neg (by rw [i3_l0, i3_le (by omega) (by omega) (by omega) (by omega)]; omega), if_neg k1, e0]
    by_cases h0 : 0 < c % 8
    · rw [if_neg (by rw [i3_l0, i3_le (by omega) (by omega) (by omega) (by omega)]; omega), if_pos h0, hb 0 0 _ (0 : Int32) rfl (by omega) b0 (by omega)]
      congr 2
      omega
    · rw [if_pos (by rw [i3_l0, i3_le (by omega) (by omega) (by omega) (by omega)]; omega), if_neg h0]
      unfold F4_following_b2
      simp only [i3_l3, i3_l1, i3_sub, i3_mul, i3_l0, i3_add]
      by_cases k2 : K ≤ 2
      · rw [if_pos (by rw [i3_le (by omega) (by omega) (by omega) (by omega)]; omega), if_pos k2]; rfl
      · rw [if_neg (by rw [i3_le (by omega) (by omega) (by omega) (by omega)]; omega), if_neg k2, show (0 : Int) + 3 = 3 from rfl, e3]
        by_cases h3 : 0 < c / 8 % 8
        · rw [if_neg (by rw [i3_le (by omega) (by omega) (by omega) (by omega)]; omega), if_pos h3, hb 0 1 _ (i3 3) rfl (by omega) b3 (by omega)]
          congr 2
          omega
        · rw [if_pos (by rw [i3_le (by omega) (by omega) (by omega) (by omega)]; omega), if_neg h3]
          unfold F4_following_b2
          simp only [i3_l3, i3_l1, i3_sub, i3_mul, i3_l0, i3_add]
          by_cases k3 : K ≤ 3
          · rw [if_pos (by rw [i3_le (by omega) (by omega) (by omega) (by omega)]; omega), if_pos k3]; rfl
          · rw [if_neg (by rw [i3_le (by omega) (by omega) (by omega) (by omega)]; omega), if_neg k3, show (3 : Int) + 3 = 6 from rfl, e6]
            by_cases h6 : 0 < c / 64 % 8
            · rw [if_neg (by rw [i3_le (by omega) (by omega) (by omega) (by omega)]; omega), if_pos h6, hb 0 2 _ (i3 6) rfl (by omega) b6 (by omega)]
              congr 2
              omega
            · rw [if_pos (by rw [i3_le (by omega) (by omega) (by omega) (by omega)]; omega), if_neg h6]
              unfold F4_following_b2
              simp only [i3_l3, i3_l1, i3_sub, i3_mul, i3_l0, i3_add]
              rw [if_pos (by rw [i3_le (by omega) (by omega) (by omega) (by omega)]; omega)]
              rfl
theorem F4_listSplits_b9_ok {z K s : Nat} {forces many : Nat → Int32} (hz : 5 ≤ z) (hs : s < 2) (hK1 : 1 ≤ K) (hK : K ≤ 4) : ∀ (l : List Nat) (w fd : Nat) (codes : Nat → Nat → Int32), chn K l = true → fd + l.length ≤ 120 → l.length < w → F4_listSplits_b9 z w (i3 s) (i3 (hdI l)) (i3 fd) (i3 K) forces many codes = some (upd many s (i3 ((fd + l.length : Nat) : Int)), va_up codes s (putL (codes s) fd l)) := by
  intro l
  induction l with
  | nil =>
    intro w fd codes _ hfd hw
    obtain ⟨w, rfl⟩ : ∃ w', w = w' + 1 := ⟨w - 1, by omega⟩
    have e41 : F4_listSplits_b41 z (i3 s) (i3 fd) (i3 K) forces many codes = some (upd many s (i3 ((fd + 0 : Nat) : Int)), va_up codes s (codes s)) := by
      unfold F4_listSplits_b41
      rw [xg_in _ (by omega) (by omega) (by omega), i3_xnN (by omega)]
      congr 2
      funext j
      unfold va_up
      split
      · rename_i h; rw [h]
      · rfl
    unfold F4_listSplits_b9
    by_cases h : (120 : Int32) ≤ i3 fd
    · rw [if_pos h, e41]; rfl
    · rw [if_neg h, if_pos (show i3 (hdI []) = -1 from rfl), e41]; rfl
  | cons a l ih =>
    intro w fd codes hch hfd hw
    obtain ⟨w, rfl⟩ : ∃ w', w = w' + 1 := ⟨w - 1, by omega⟩
    have hch' : (decide (a < 4096) && (nxt K a == hdI l) && chn K l) = true := hch
    simp only [Bool.and_eq_true, decide_eq_true_eq, beq_iff_eq] at hch'
    have hlen : fd + (l.length + 1) ≤ 120 := hfd
    have hw' : l.length + 1 < w + 1 := hw
    unfold F4_listSplits_b9
    rw [show hdI (a :: l) = (a : Int) from rfl]
    rw [if_neg (by rw [i3_l120, i3_le (by omega) (by omega) (by omega) (by omega)]; omega), if_neg (by rw [i3_m1, i3_eq (by omega) (by omega) (by omega) (by omega)]; omega), xg_in _ (by omega) (by omega) (by omega), xg_in _ (by omega) (by omega) (by omega), F4_following_ok hz hK1 hK hch'.1.1, hch'.1.2]
    simp only [Option.bind_some]
    rw [i3_xnN (by omega), i3_xnN (by omega), i3_l1, i3_add]
    rw [show ((fd : Int) + 1) = ((fd + 1 : Nat) : Int) by omega, ih w (fd + 1) _ hch'.2 (by omega) (by omega)]
    congr 2
    · show upd many s (i3 ((fd + 1 + l.length : Nat) : Int)) = upd many s (i3 ((fd + (l.length + 1) : Nat) : Int))
      rw [show fd + 1 + l.length = fd + (l.length + 1) by omega]
    · funext j
      unfold va_up
      by_cases h : j = s
      · subst h; simp only [if_true]; rfl
      · simp only [if_neg h]
theorem F4_listSplits_ok {z K s f : Nat} {forces many : Nat → Int32} {codes : Nat → Nat → Int32} (hz : 200 ≤ z) (hs : s < 2) (hK1 : 1 ≤ K) (hK : K ≤ 4) (hf : f ≤ 7) (hfo : forces s = i3 f) : F4_listSplits z (i3 s) (i3 K) forces many codes = some (upd many s (i3 (ns K f : Nat)), va_up codes s (putL (codes s) 0 (cl K f))) := by
  obtain ⟨h1, h2, h3, h4⟩ := cl_facts hK1 hK hf
  unfold F4_listSplits
  rw [xg_in _ (by omega) (by omega) (by omega), i3_xnN (by omega), hfo, ← h2]
  have := F4_listSplits_b9_ok (many := many) (forces := forces) (show 5 ≤ z by omega) hs hK1 hK (cl K f) z 0 codes h1 (by unfold ns at h3; omega) (by unfold ns at h3; omega)
  rw [Nat.zero_add] at this
  exact this
