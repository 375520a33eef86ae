/-! ===== the law's cases, over any invariant of the two heaps ===== -/
def hLw (hx hm : xHp) (out : Nat → Int64) : xHp := hx ++ (hm.map (xe (fun j => 81 + j)) ++ [.inl (1, 1, .inr (.inl out))])
def xShp (hx hm : xHp) : Prop := hx.length = 81 ∧ hm.length = 20 ∧ (∃ fs, hx[0]? = some (.inr (9, fs))) ∧ (∃ fs, hm[0]? = some (.inr (10, fs))) ∧ xScH 81 hx
/-- a call of both: one answer, the invariant kept -/
def xSt (Inv Iny : xHp → xHp → Prop) (l : Launch) (y9 y10 : MethodName) (J9 J10 : xJ) (P : List Int32 → Prop) : Prop := ∀ (as : List Int32) (hx hm : xHp), Inv hx hm → P as → ∃ (v : Int32) (hx' hm' : xHp), xCt l y9 (some .int) J9 (.ref 0 :: as.map .int) hx (some (.int v)) hx' ∧ xCt l y10 (some .int) J10 (.ref 0 :: as.map .int) hm (some (.int v)) hm' ∧ Iny hx' hm'
def xStP (Inv Iny : xHp → xHp → Prop) (l : Launch) (y9 y10 : MethodName) (J9 J10 : xJ) (P : List Int32 → Prop) : Prop := ∀ (as : List Int32) (hx hm : xHp), Inv hx hm → P as → ∃ (v : Int32) (hx' hm' : xHp), xCtP l y9 (some .int) J9 (.ref 0 :: as.map .int) hx (some (.int v)) hx' ∧ xCt l y10 (some .int) J10 (.ref 0 :: as.map .int) hm (some (.int v)) hm' ∧ Iny hx' hm'
def xStL (Inv Iny : xHp → xHp → Prop) (l : Launch) (y9 y10 : MethodName) (J9 J10 : xJ) (P : List Int32 → Prop) : Prop := ∀ (as : List Int32) (hx hm : xHp), Inv hx hm → P as → ∃ (v : Int64) (hx' hm' : xHp), xCt l y9 (some .long) J9 (.ref 0 :: as.map .int) hx (some (.long v)) hx' ∧ xCt l y10 (some .long) J10 (.ref 0 :: as.map .int) hm (some (.long v)) hm' ∧ Iny hx' hm'
abbrev xLocs (t : Nat) : List (Nat × Value) := [(4, .int (Int32.ofNat (6 * t))), (0, .ref 2000), (1, .ref 0), (2, .ref 81), (3, .ref 101)]
/-- where a case goes on -/
def xLwK (Inv : xHp → xHp → Prop) (l : Launch) (_X : xX) (b L : Nat) (xs : Nat → Int32) (n k t : Nat) : Prop := ∀ (X' : xX) (n' k' : Nat) (hx hm : xHp) (out : Nat → Int64), xLw X' b L xs → X'.1.2.1 = l → n' ≤ n + 1101 → k' ≤ k + 6606 → Inv hx hm → xV jL_law X' n' k' (hLw hx hm out) 1676 (xLocs t) []
theorem xI32 {a : Nat} (h : a < 2147483648) : (Int32.ofNat a).toInt = (a : Int) := Int32.toInt_ofNat_of_lt h
theorem xArgS (t j : Nat) : Int32.ofNat (6 * t) + Int32.ofNat j = Int32.ofNat (6 * t + j) := (Int32.ofNat_add _ _).symm
theorem xArgC {a : Nat} (h : a < 2147483648) : (Int32.ofNat a).toNatClampNeg = a := by
  show (Int32.ofNat a).toInt.toNat = a
  rw [xI32 h]; rfl
theorem xArgI {t L : Nat} {c : Int32} (j : Nat) (hc : Int32.ofNat j = c ∧ j < 6) (ht : 6 * t + 6 ≤ L) (hL : L ≤ 3072) : vp_in (Int32.ofNat (6 * t) + c) L := by
  rw [← hc.1, xArgS]
  rintro (q | q)
  · have := Int32.lt_iff_toInt_lt.mp q
    rw [xI32 (by omega)] at this
    have h0 : (0 : Int32).toInt = 0 := by decide
    omega
  · rw [xArgC (by omega)] at q
    omega
theorem xArgJ {t L : Nat} {c : Int32} (j : Nat) (hc : Int32.ofNat j = c ∧ j < 6) (ht : 6 * t + 6 ≤ L) (hL : L ≤ 3072) : (Int32.ofNat (6 * t) + c).toNatClampNeg = 6 * t + j := by
  rw [← hc.1, xArgS, xArgC (by omega)]
theorem xz1 {a b c : Nat} (h : a + b ≤ c) : a + 0 ≤ c := by omega
theorem xz2 {a : Nat} (h : a + 1101 ≤ 601024) : a + 1100 ≤ 601024 := by omega
theorem xz3 {a : Nat} (h : a + 6606 ≤ 7293034) : a + 6600 ≤ 7293034 := by omega
theorem xb01 (a : Int32) : (if a = 0 then (0 : Int32) else 1) = 0 ∨ (if a = 0 then (0 : Int32) else 1) = 1 := by
  by_cases h : a = 0
  · rw [if_pos h]; exact Or.inl rfl
  · rw [if_neg h]; exact Or.inr rfl
theorem xAt0 {hx t : xHp} {c : xE} (h : hx[0]? = some c) : (hx ++ t)[0]? = some c := by
  rw [List.getElem?_append_left (List.getElem?_eq_some_iff.mp h).1]; exact h
theorem xLcmp {v : Int64} : lg_cmp v v = 0 := by
  unfold lg_cmp
  simp
theorem xMid_ok (hm : xHp) (out : Nat → Int64) : ∀ c ∈ hm.map (xe (fun j => 81 + j)) ++ [.inl (1, 1, .inr (.inl out))], xOkE (fun j => 81 ≤ j) c := by
  intro c hc
  rcases List.mem_append.mp hc with h | h
  · obtain ⟨d, -, rfl⟩ := List.mem_map.mp h
    exact xe_shift_ok (fun j hj => hj) d
  · rw [List.mem_singleton.mp h]; trivial
theorem xLoc_ok (t : Nat) : ∀ q ∈ xLocs t, xOkV (fun j => j = 0 ∨ 81 ≤ j) q.2 := by
  intro q hq a ha
  simp only [List.mem_cons, List.not_mem_nil, or_false] at hq
  rcases hq with rfl | rfl | rfl | rfl | rfl
  · cases ha
  · cases ha; exact Or.inr (by omega)
  · cases ha; exact Or.inl rfl
  · cases ha; exact Or.inr (by omega)
  · cases ha; exact Or.inr (by omega)
theorem xV_bool {J : xJ} {X : xX} {n k : Nat} {h : xHp} {L : List (Nat × Value)} {st : List Value} {X0 Y0 : Nat} (pc : Nat) {pc1 : Nat} (hpc : pc1 = pc) {x : Int32} {o1 o2 : Int} (d0 : decode J.1 pc = .ok (.ifCond .eq o1, 3)) (d1 : decode J.1 (pc + 3) = .ok (.iconst 1, 1)) (d2 : decode J.1 (pc + 4) = .ok (.goto o2, 3)) (d3 : decode J.1 X0 = .ok (.iconst 0, 1)) (h1 : (pc : Int) + o1 = (X0 : Int)) (h2 : ((pc + 4 : Nat) : Int) + o2 = (Y0 : Int)) (h3 : X0 + 1 = Y0) (kk : xV J X n k h Y0 L (.int (if x = 0 then 0 else 1) :: st)) : xV J X n k h pc1 L (.int x :: st) := by
  subst hpc
  refine xV_if_eq (tgt := X0) (pc1 + 3) rfl d0 h1 (fun hq => ?_) (fun hq => ?_)
  · rw [if_pos hq] at kk
    exact xV_iconst (v := 0) Y0 h3 d3 (by decide) kk
  · rw [if_neg hq] at kk
    refine xV_iconst (v := 1) (pc1 + 3 + 1) rfl d1 (by decide) ?_
    exact xV_goto (tgt := Y0) d2 h2 kk
theorem dL_law_216 : decode cL_law 216 = .ok (.aload_n 1, 1) := by decide +kernel
theorem dL_law_217 : decode cL_law 217 = .ok (.aload_n 0, 1) := by decide +kernel
theorem dL_law_218 : decode cL_law 218 = .ok (.iload 4, 2) := by decide +kernel
theorem dL_law_220 : decode cL_law 220 = .ok (.iconst 1, 1) := by decide +kernel
theorem dL_law_221 : decode cL_law 221 = .ok (.iadd, 1) := by decide +kernel
theorem dL_law_222 : decode cL_law 222 = .ok (.iaload, 1) := by decide +kernel
theorem dL_law_223 : decode cL_law 223 = .ok (.aload_n 0, 1) := by decide +kernel
theorem dL_law_224 : decode cL_law 224 = .ok (.iload 4, 2) := by decide +kernel
theorem dL_law_226 : decode cL_law 226 = .ok (.iconst 2, 1) := by decide +kernel
theorem dL_law_227 : decode cL_law 227 = .ok (.iadd, 1) := by decide +kernel
theorem dL_law_228 : decode cL_law 228 = .ok (.iaload, 1) := by decide +kernel
theorem dL_law_229 : decode cL_law 229 = .ok (.aload_n 0, 1) := by decide +kernel
theorem dL_law_230 : decode cL_law 230 = .ok (.iload 4, 2) := by decide +kernel
theorem dL_law_232 : decode cL_law 232 = .ok (.iconst 3, 1) := by decide +kernel
theorem dL_law_233 : decode cL_law 233 = .ok (.iadd, 1) := by decide +kernel
theorem dL_law_234 : decode cL_law 234 = .ok (.iaload, 1) := by decide +kernel
theorem dL_law_235 : decode cL_law 235 = .ok (.aload_n 0, 1) := by decide +kernel
theorem dL_law_236 : decode cL_law 236 = .ok (.iload 4, 2) := by decide +kernel
theorem dL_law_238 : decode cL_law 238 = .ok (.iconst 4, 1) := by decide +kernel
theorem dL_law_239 : decode cL_law 239 = .ok (.iadd, 1) := by decide +kernel
theorem dL_law_240 : decode cL_law 240 = .ok (.iaload, 1) := by decide +kernel
theorem dL_law_241 : decode cL_law 241 = .ok (.aload_n 0, 1) := by decide +kernel
theorem dL_law_242 : decode cL_law 242 = .ok (.iload 4, 2) := by decide +kernel
theorem dL_law_244 : decode cL_law 244 = .ok (.iconst 5, 1) := by decide +kernel
theorem dL_law_245 : decode cL_law 245 = .ok (.iadd, 1) := by decide +kernel
theorem dL_law_246 : decode cL_law 246 = .ok (.iaload, 1) := by decide +kernel
theorem dL_law_247 : decode cL_law 247 = .ok (.invokevirtual 19, 3) := by decide +kernel
theorem dL_law_250 : decode cL_law 250 = .ok (.aload_n 2, 1) := by decide +kernel
theorem dL_law_251 : decode cL_law 251 = .ok (.aload_n 0, 1) := by decide +kernel
theorem dL_law_252 : decode cL_law 252 = .ok (.iload 4, 2) := by decide +kernel
theorem dL_law_254 : decode cL_law 254 = .ok (.iconst 1, 1) := by decide +kernel
theorem dL_law_255 : decode cL_law 255 = .ok (.iadd, 1) := by decide +kernel
theorem dL_law_256 : decode cL_law 256 = .ok (.iaload, 1) := by decide +kernel
theorem dL_law_257 : decode cL_law 257 = .ok (.aload_n 0, 1) := by decide +kernel
theorem dL_law_258 : decode cL_law 258 = .ok (.iload 4, 2) := by decide +kernel
theorem dL_law_260 : decode cL_law 260 = .ok (.iconst 2, 1) := by decide +kernel
theorem dL_law_261 : decode cL_law 261 = .ok (.iadd, 1) := by decide +kernel
theorem dL_law_262 : decode cL_law 262 = .ok (.iaload, 1) := by decide +kernel
theorem dL_law_263 : decode cL_law 263 = .ok (.aload_n 0, 1) := by decide +kernel
theorem dL_law_264 : decode cL_law 264 = .ok (.iload 4, 2) := by decide +kernel
theorem dL_law_266 : decode cL_law 266 = .ok (.iconst 3, 1) := by decide +kernel
theorem dL_law_267 : decode cL_law 267 = .ok (.iadd, 1) := by decide +kernel
theorem dL_law_268 : decode cL_law 268 = .ok (.iaload, 1) := by decide +kernel
theorem dL_law_269 : decode cL_law 269 = .ok (.aload_n 0, 1) := by decide +kernel
theorem dL_law_270 : decode cL_law 270 = .ok (.iload 4, 2) := by decide +kernel
theorem dL_law_272 : decode cL_law 272 = .ok (.iconst 4, 1) := by decide +kernel
theorem dL_law_273 : decode cL_law 273 = .ok (.iadd, 1) := by decide +kernel
theorem dL_law_274 : decode cL_law 274 = .ok (.iaload, 1) := by decide +kernel
theorem dL_law_275 : decode cL_law 275 = .ok (.aload_n 0, 1) := by decide +kernel
theorem dL_law_276 : decode cL_law 276 = .ok (.iload 4, 2) := by decide +kernel
theorem dL_law_278 : decode cL_law 278 = .ok (.iconst 5, 1) := by decide +kernel
theorem dL_law_279 : decode cL_law 279 = .ok (.iadd, 1) := by decide +kernel
theorem dL_law_280 : decode cL_law 280 = .ok (.iaload, 1) := by decide +kernel
theorem dL_law_281 : decode cL_law 281 = .ok (.invokevirtual 23, 3) := by decide +kernel
theorem dL_law_284 : decode cL_law 284 = .ok (.if_icmp .eq 1392, 3) := by decide +kernel
theorem Lw_feed {Inv Iny : xHp → xHp → Prop} {l : Launch} {X : xX} {b L : Nat} {xs : Nat → Int32} {n k t : Nat} {hx hm : xHp} {out : Nat → Int64} (hShp : ∀ hx hm, Inv hx hm → xShp hx hm) (hShq : ∀ hx hm, Iny hx hm → xShp hx hm) (hS : xSt Inv Iny l yX9_feed yX10_feed j9_feed j10_feed (fun as => as.length = 5)) (hW : xLw X b L xs) (hl : X.1.2.1 = l) (hI : Inv hx hm) (ht : 6 * t + 6 ≤ L) (hL : L ≤ 3072) (hn : n + 1101 ≤ 601024) (hk : k + 6606 ≤ 7293034) (kk : xLwK Iny l X b L xs n k t) : xV jL_law X n k (hLw hx hm out) 216 [(4, .int (Int32.ofNat (6 * t))), (0, .ref 2000), (1, .ref 0), (2, .ref 81), (3, .ref 101)] [] := by
  obtain ⟨hlx, hlm, ⟨fx, hx0⟩, ⟨fm, hm0⟩, hsx⟩ := hShp hx hm hI
  refine xV_aload_n 217 rfl dL_law_216 rfl 2 rfl ?_
  refine xV_aload_n 218 rfl dL_law_217 rfl 1 rfl ?_
  refine xV_iload 220 rfl dL_law_218 0 rfl ?_
  refine xV_iconst (v := 1) 221 rfl dL_law_220 (by decide) ?_
  refine xV_iadd 222 rfl dL_law_221 ?_
  refine xV_sld 223 rfl hW dL_law_222 (xArgI 1 (by decide) ht hL) (xArgJ 1 (by decide) ht hL) ?_
  refine xV_aload_n 224 rfl dL_law_223 rfl 1 rfl ?_
  refine xV_iload 226 rfl dL_law_224 0 rfl ?_
  refine xV_iconst (v := 2) 227 rfl dL_law_226 (by decide) ?_
  refine xV_iadd 228 rfl dL_law_227 ?_
  refine xV_sld 229 rfl hW dL_law_228 (xArgI 2 (by decide) ht hL) (xArgJ 2 (by decide) ht hL) ?_
  refine xV_aload_n 230 rfl dL_law_229 rfl 1 rfl ?_
  refine xV_iload 232 rfl dL_law_230 0 rfl ?_
  refine xV_iconst (v := 3) 233 rfl dL_law_232 (by decide) ?_
  refine xV_iadd 234 rfl dL_law_233 ?_
  refine xV_sld 235 rfl hW dL_law_234 (xArgI 3 (by decide) ht hL) (xArgJ 3 (by decide) ht hL) ?_
  refine xV_aload_n 236 rfl dL_law_235 rfl 1 rfl ?_
  refine xV_iload 238 rfl dL_law_236 0 rfl ?_
  refine xV_iconst (v := 4) 239 rfl dL_law_238 (by decide) ?_
  refine xV_iadd 240 rfl dL_law_239 ?_
  refine xV_sld 241 rfl hW dL_law_240 (xArgI 4 (by decide) ht hL) (xArgJ 4 (by decide) ht hL) ?_
  refine xV_aload_n 242 rfl dL_law_241 rfl 1 rfl ?_
  refine xV_iload 244 rfl dL_law_242 0 rfl ?_
  refine xV_iconst (v := 5) 245 rfl dL_law_244 (by decide) ?_
  refine xV_iadd 246 rfl dL_law_245 ?_
  refine xV_sld 247 rfl hW dL_law_246 (xArgI 5 (by decide) ht hL) (xArgJ 5 (by decide) ht hL) ?_
  obtain ⟨v, hx2, hm2, hc9, hc10, hI2⟩ := hS [(xs (6 * t + 1)), (xs (6 * t + 2)), (xs (6 * t + 3)), (xs (6 * t + 4)), (xs (6 * t + 5))] hx hm hI (by exact rfl)
  obtain ⟨hlx2, hlm2, ⟨fx2, hx02⟩, ⟨fm2, hm02⟩, hsx2⟩ := hShq hx2 hm2 hI2
  refine xV_pre (J := jL_law) (X := X) (pc := 247) (h := hx) (h' := hx2) (t := hm.map (xe (fun j => 81 + j)) ++ [.inl (1, 1, .inr (.inl out))]) (rest := []) (av2 := [.int (xs (6 * t + 1)), .int (xs (6 * t + 2)), .int (xs (6 * t + 3)), .int (xs (6 * t + 4)), .int (xs (6 * t + 5))]) 250 rfl dL_law_247 hl hc9 m9_feed v9_feed (List.mem_of_getElem? (i := 169) (by decide +kernel)) (hlx2.trans hlx.symm) rfl (xAt0 hx0) rfl rfl (Nat.le_of_ble_eq_true rfl) (Nat.le_of_ble_eq_true rfl) (Nat.le_of_ble_eq_true rfl) ⟨xz1 hn, xz1 hk⟩ ?_
  refine xV_eq (n' := n) (k' := k) (Nat.add_zero n) (Nat.add_zero k) ?_
  show xV jL_law X n k (hLw hx2 hm out) 250 [(4, .int (Int32.ofNat (6 * t))), (0, .ref 2000), (1, .ref 0), (2, .ref 81), (3, .ref 101)] [.int v]
  refine xV_aload_n 251 rfl dL_law_250 rfl 3 rfl ?_
  refine xV_aload_n 252 rfl dL_law_251 rfl 1 rfl ?_
  refine xV_iload 254 rfl dL_law_252 0 rfl ?_
  refine xV_iconst (v := 1) 255 rfl dL_law_254 (by decide) ?_
  refine xV_iadd 256 rfl dL_law_255 ?_
  refine xV_sld 257 rfl hW dL_law_256 (xArgI 1 (by decide) ht hL) (xArgJ 1 (by decide) ht hL) ?_
  refine xV_aload_n 258 rfl dL_law_257 rfl 1 rfl ?_
  refine xV_iload 260 rfl dL_law_258 0 rfl ?_
  refine xV_iconst (v := 2) 261 rfl dL_law_260 (by decide) ?_
  refine xV_iadd 262 rfl dL_law_261 ?_
  refine xV_sld 263 rfl hW dL_law_262 (xArgI 2 (by decide) ht hL) (xArgJ 2 (by decide) ht hL) ?_
  refine xV_aload_n 264 rfl dL_law_263 rfl 1 rfl ?_
  refine xV_iload 266 rfl dL_law_264 0 rfl ?_
  refine xV_iconst (v := 3) 267 rfl dL_law_266 (by decide) ?_
  refine xV_iadd 268 rfl dL_law_267 ?_
  refine xV_sld 269 rfl hW dL_law_268 (xArgI 3 (by decide) ht hL) (xArgJ 3 (by decide) ht hL) ?_
  refine xV_aload_n 270 rfl dL_law_269 rfl 1 rfl ?_
  refine xV_iload 272 rfl dL_law_270 0 rfl ?_
  refine xV_iconst (v := 4) 273 rfl dL_law_272 (by decide) ?_
  refine xV_iadd 274 rfl dL_law_273 ?_
  refine xV_sld 275 rfl hW dL_law_274 (xArgI 4 (by decide) ht hL) (xArgJ 4 (by decide) ht hL) ?_
  refine xV_aload_n 276 rfl dL_law_275 rfl 1 rfl ?_
  refine xV_iload 278 rfl dL_law_276 0 rfl ?_
  refine xV_iconst (v := 5) 279 rfl dL_law_278 (by decide) ?_
  refine xV_iadd 280 rfl dL_law_279 ?_
  refine xV_sld 281 rfl hW dL_law_280 (xArgI 5 (by decide) ht hL) (xArgJ 5 (by decide) ht hL) ?_
  refine xV_mid (hx := hx2) (hm := hm) (hm' := hm2) (t := [.inl (1, 1, .inr (.inl out))]) (rest := [.int v]) (av2 := [.int (xs (6 * t + 1)), .int (xs (6 * t + 2)), .int (xs (6 * t + 3)), .int (xs (6 * t + 4)), .int (xs (6 * t + 5))]) 81 hlx2 284 rfl dL_law_281 hl hc10 m10_feed v10_feed (List.mem_of_getElem? (i := 179) (by decide +kernel)) (hlm2.trans hlm.symm) rfl rfl rfl hm0 rfl rfl (Nat.le_of_ble_eq_true rfl) (Nat.le_of_ble_eq_true rfl) (Nat.le_of_ble_eq_true rfl) ⟨xz1 hn, xz1 hk⟩ ?_
  refine xV_eq (n' := n) (k' := k) (Nat.add_zero n) (Nat.add_zero k) ?_
  show xV jL_law X n k (hLw hx2 hm2 out) 284 [(4, .int (Int32.ofNat (6 * t))), (0, .ref 2000), (1, .ref 0), (2, .ref 81), (3, .ref 101)] [.int v, .int v]
  refine xV_icmp_eq (tgt := 1676) 287 rfl dL_law_284 (by decide) (fun _ => ?_) (fun hq => absurd rfl hq)
  exact kk X n k hx2 hm2 out hW hl (by omega) (by omega) hI2
theorem dL_law_289 : decode cL_law 289 = .ok (.aload_n 1, 1) := by decide +kernel
theorem dL_law_290 : decode cL_law 290 = .ok (.aload_n 0, 1) := by decide +kernel
theorem dL_law_291 : decode cL_law 291 = .ok (.iload 4, 2) := by decide +kernel
theorem dL_law_293 : decode cL_law 293 = .ok (.iconst 1, 1) := by decide +kernel
theorem dL_law_294 : decode cL_law 294 = .ok (.iadd, 1) := by decide +kernel
theorem dL_law_295 : decode cL_law 295 = .ok (.iaload, 1) := by decide +kernel
theorem dL_law_296 : decode cL_law 296 = .ok (.invokevirtual 24, 3) := by decide +kernel
theorem dL_law_299 : decode cL_law 299 = .ok (.aload_n 2, 1) := by decide +kernel
theorem dL_law_300 : decode cL_law 300 = .ok (.aload_n 0, 1) := by decide +kernel
theorem dL_law_301 : decode cL_law 301 = .ok (.iload 4, 2) := by decide +kernel
theorem dL_law_303 : decode cL_law 303 = .ok (.iconst 1, 1) := by decide +kernel
theorem dL_law_304 : decode cL_law 304 = .ok (.iadd, 1) := by decide +kernel
theorem dL_law_305 : decode cL_law 305 = .ok (.iaload, 1) := by decide +kernel
theorem dL_law_306 : decode cL_law 306 = .ok (.invokevirtual 28, 3) := by decide +kernel
theorem dL_law_309 : decode cL_law 309 = .ok (.if_icmp .eq 1367, 3) := by decide +kernel
theorem Lw_text {Inv Iny : xHp → xHp → Prop} {l : Launch} {X : xX} {b L : Nat} {xs : Nat → Int32} {n k t : Nat} {hx hm : xHp} {out : Nat → Int64} (hShp : ∀ hx hm, Inv hx hm → xShp hx hm) (hShq : ∀ hx hm, Iny hx hm → xShp hx hm) (hS : xStP Inv Iny l yX9_text yX10_text j9_text j10_text (fun as => as.length = 1)) (hW : xLw X b L xs) (hl : X.1.2.1 = l) (hI : Inv hx hm) (ht : 6 * t + 6 ≤ L) (hL : L ≤ 3072) (hn : n + 1101 ≤ 601024) (hk : k + 6606 ≤ 7293034) (kk : xLwK Iny l X b L xs n k t) : xV jL_law X n k (hLw hx hm out) 289 [(4, .int (Int32.ofNat (6 * t))), (0, .ref 2000), (1, .ref 0), (2, .ref 81), (3, .ref 101)] [] := by
  obtain ⟨hlx, hlm, ⟨fx, hx0⟩, ⟨fm, hm0⟩, hsx⟩ := hShp hx hm hI
  refine xV_aload_n 290 rfl dL_law_289 rfl 2 rfl ?_
  refine xV_aload_n 291 rfl dL_law_290 rfl 1 rfl ?_
  refine xV_iload 293 rfl dL_law_291 0 rfl ?_
  refine xV_iconst (v := 1) 294 rfl dL_law_293 (by decide) ?_
  refine xV_iadd 295 rfl dL_law_294 ?_
  refine xV_sld 296 rfl hW dL_law_295 (xArgI 1 (by decide) ht hL) (xArgJ 1 (by decide) ht hL) ?_
  obtain ⟨v, hx2, hm2, hc9, hc10, hI2⟩ := hS [(xs (6 * t + 1))] hx hm hI (by exact rfl)
  obtain ⟨hlx2, hlm2, ⟨fx2, hx02⟩, ⟨fm2, hm02⟩, hsx2⟩ := hShq hx2 hm2 hI2
  refine xV_textL (hx' := hx2) (rest := []) (av2 := [.int (xs (6 * t + 1))]) 81 hlx hlx2 299 rfl dL_law_296 hl hc9 m9_text v9_text (List.mem_of_getElem? (i := 189) (by decide +kernel)) (fun _ => rfl) rfl hx0 rfl rfl (Nat.le_of_ble_eq_true rfl) (Nat.le_of_ble_eq_true rfl) (Nat.le_of_ble_eq_true rfl) ⟨xz1 hn, xz1 hk⟩ hsx2 (xMid_ok hm out) (xLoc_ok _) (fun v hv => by cases hv) (fun r' hr' => ?_)
  have hW := xLw_setr (r' := r') (hr' 2000 (Or.inr (Nat.le_of_ble_eq_true rfl))) hW
  have hl : (xsetr X r').1.2.1 = l := hl
  generalize xsetr X r' = X at hW hl ⊢
  refine xV_eq (n' := n) (k' := k) (Nat.add_zero n) (Nat.add_zero k) ?_
  show xV jL_law X n k (hLw hx2 hm out) 299 [(4, .int (Int32.ofNat (6 * t))), (0, .ref 2000), (1, .ref 0), (2, .ref 81), (3, .ref 101)] [.int v]
  refine xV_aload_n 300 rfl dL_law_299 rfl 3 rfl ?_
  refine xV_aload_n 301 rfl dL_law_300 rfl 1 rfl ?_
  refine xV_iload 303 rfl dL_law_301 0 rfl ?_
  refine xV_iconst (v := 1) 304 rfl dL_law_303 (by decide) ?_
  refine xV_iadd 305 rfl dL_law_304 ?_
  refine xV_sld 306 rfl hW dL_law_305 (xArgI 1 (by decide) ht hL) (xArgJ 1 (by decide) ht hL) ?_
  refine xV_mid (hx := hx2) (hm := hm) (hm' := hm2) (t := [.inl (1, 1, .inr (.inl out))]) (rest := [.int v]) (av2 := [.int (xs (6 * t + 1))]) 81 hlx2 309 rfl dL_law_306 hl hc10 m10_text v10_text (List.mem_of_getElem? (i := 405) (by decide +kernel)) (hlm2.trans hlm.symm) rfl rfl rfl hm0 rfl rfl (Nat.le_of_ble_eq_true rfl) (Nat.le_of_ble_eq_true rfl) (Nat.le_of_ble_eq_true rfl) ⟨xz2 hn, xz3 hk⟩ ?_
  show xV jL_law X (n + 1100) (k + 6600) (hLw hx2 hm2 out) 309 [(4, .int (Int32.ofNat (6 * t))), (0, .ref 2000), (1, .ref 0), (2, .ref 81), (3, .ref 101)] [.int v, .int v]
  refine xV_icmp_eq (tgt := 1676) 312 rfl dL_law_309 (by decide) (fun _ => ?_) (fun hq => absurd rfl hq)
  exact kk X (n + 1100) (k + 6600) hx2 hm2 out hW hl (by omega) (by omega) hI2
theorem dL_law_314 : decode cL_law 314 = .ok (.aload_n 1, 1) := by decide +kernel
theorem dL_law_315 : decode cL_law 315 = .ok (.aload_n 0, 1) := by decide +kernel
theorem dL_law_316 : decode cL_law 316 = .ok (.iload 4, 2) := by decide +kernel
theorem dL_law_318 : decode cL_law 318 = .ok (.iconst 1, 1) := by decide +kernel
theorem dL_law_319 : decode cL_law 319 = .ok (.iadd, 1) := by decide +kernel
theorem dL_law_320 : decode cL_law 320 = .ok (.iaload, 1) := by decide +kernel
theorem dL_law_321 : decode cL_law 321 = .ok (.invokevirtual 29, 3) := by decide +kernel
theorem dL_law_324 : decode cL_law 324 = .ok (.aload_n 2, 1) := by decide +kernel
theorem dL_law_325 : decode cL_law 325 = .ok (.aload_n 0, 1) := by decide +kernel
theorem dL_law_326 : decode cL_law 326 = .ok (.iload 4, 2) := by decide +kernel
theorem dL_law_328 : decode cL_law 328 = .ok (.iconst 1, 1) := by decide +kernel
theorem dL_law_329 : decode cL_law 329 = .ok (.iadd, 1) := by decide +kernel
theorem dL_law_330 : decode cL_law 330 = .ok (.iaload, 1) := by decide +kernel
theorem dL_law_331 : decode cL_law 331 = .ok (.invokevirtual 32, 3) := by decide +kernel
theorem dL_law_334 : decode cL_law 334 = .ok (.if_icmp .eq 1342, 3) := by decide +kernel
theorem Lw_field {Inv Iny : xHp → xHp → Prop} {l : Launch} {X : xX} {b L : Nat} {xs : Nat → Int32} {n k t : Nat} {hx hm : xHp} {out : Nat → Int64} (hShp : ∀ hx hm, Inv hx hm → xShp hx hm) (hShq : ∀ hx hm, Iny hx hm → xShp hx hm) (hS : xSt Inv Iny l yX9_field yX10_field j9_field j10_field (fun as => as.length = 1)) (hW : xLw X b L xs) (hl : X.1.2.1 = l) (hI : Inv hx hm) (ht : 6 * t + 6 ≤ L) (hL : L ≤ 3072) (hn : n + 1101 ≤ 601024) (hk : k + 6606 ≤ 7293034) (kk : xLwK Iny l X b L xs n k t) : xV jL_law X n k (hLw hx hm out) 314 [(4, .int (Int32.ofNat (6 * t))), (0, .ref 2000), (1, .ref 0), (2, .ref 81), (3, .ref 101)] [] := by
  obtain ⟨hlx, hlm, ⟨fx, hx0⟩, ⟨fm, hm0⟩, hsx⟩ := hShp hx hm hI
  refine xV_aload_n 315 rfl dL_law_314 rfl 2 rfl ?_
  refine xV_aload_n 316 rfl dL_law_315 rfl 1 rfl ?_
  refine xV_iload 318 rfl dL_law_316 0 rfl ?_
  refine xV_iconst (v := 1) 319 rfl dL_law_318 (by decide) ?_
  refine xV_iadd 320 rfl dL_law_319 ?_
  refine xV_sld 321 rfl hW dL_law_320 (xArgI 1 (by decide) ht hL) (xArgJ 1 (by decide) ht hL) ?_
  obtain ⟨v, hx2, hm2, hc9, hc10, hI2⟩ := hS [(xs (6 * t + 1))] hx hm hI (by exact rfl)
  obtain ⟨hlx2, hlm2, ⟨fx2, hx02⟩, ⟨fm2, hm02⟩, hsx2⟩ := hShq hx2 hm2 hI2
  refine xV_pre (J := jL_law) (X := X) (pc := 321) (h := hx) (h' := hx2) (t := hm.map (xe (fun j => 81 + j)) ++ [.inl (1, 1, .inr (.inl out))]) (rest := []) (av2 := [.int (xs (6 * t + 1))]) 324 rfl dL_law_321 hl hc9 m9_field v9_field (List.mem_of_getElem? (i := 501) (by decide +kernel)) (hlx2.trans hlx.symm) rfl (xAt0 hx0) rfl rfl (Nat.le_of_ble_eq_true rfl) (Nat.le_of_ble_eq_true rfl) (Nat.le_of_ble_eq_true rfl) ⟨xz1 hn, xz1 hk⟩ ?_
  refine xV_eq (n' := n) (k' := k) (Nat.add_zero n) (Nat.add_zero k) ?_
  show xV jL_law X n k (hLw hx2 hm out) 324 [(4, .int (Int32.ofNat (6 * t))), (0, .ref 2000), (1, .ref 0), (2, .ref 81), (3, .ref 101)] [.int v]
  refine xV_aload_n 325 rfl dL_law_324 rfl 3 rfl ?_
  refine xV_aload_n 326 rfl dL_law_325 rfl 1 rfl ?_
  refine xV_iload 328 rfl dL_law_326 0 rfl ?_
  refine xV_iconst (v := 1) 329 rfl dL_law_328 (by decide) ?_
  refine xV_iadd 330 rfl dL_law_329 ?_
  refine xV_sld 331 rfl hW dL_law_330 (xArgI 1 (by decide) ht hL) (xArgJ 1 (by decide) ht hL) ?_
  refine xV_mid (hx := hx2) (hm := hm) (hm' := hm2) (t := [.inl (1, 1, .inr (.inl out))]) (rest := [.int v]) (av2 := [.int (xs (6 * t + 1))]) 81 hlx2 334 rfl dL_law_331 hl hc10 m10_field v10_field (List.mem_of_getElem? (i := 516) (by decide +kernel)) (hlm2.trans hlm.symm) rfl rfl rfl hm0 rfl rfl (Nat.le_of_ble_eq_true rfl) (Nat.le_of_ble_eq_true rfl) (Nat.le_of_ble_eq_true rfl) ⟨xz1 hn, xz1 hk⟩ ?_
  refine xV_eq (n' := n) (k' := k) (Nat.add_zero n) (Nat.add_zero k) ?_
  show xV jL_law X n k (hLw hx2 hm2 out) 334 [(4, .int (Int32.ofNat (6 * t))), (0, .ref 2000), (1, .ref 0), (2, .ref 81), (3, .ref 101)] [.int v, .int v]
  refine xV_icmp_eq (tgt := 1676) 337 rfl dL_law_334 (by decide) (fun _ => ?_) (fun hq => absurd rfl hq)
  exact kk X n k hx2 hm2 out hW hl (by omega) (by omega) hI2
theorem dL_law_339 : decode cL_law 339 = .ok (.aload_n 1, 1) := by decide +kernel
theorem dL_law_340 : decode cL_law 340 = .ok (.invokevirtual 33, 3) := by decide +kernel
theorem dL_law_343 : decode cL_law 343 = .ok (.aload_n 2, 1) := by decide +kernel
theorem dL_law_344 : decode cL_law 344 = .ok (.invokevirtual 37, 3) := by decide +kernel
theorem dL_law_347 : decode cL_law 347 = .ok (.if_icmp .eq 1329, 3) := by decide +kernel
theorem Lw_lose {Inv Iny : xHp → xHp → Prop} {l : Launch} {X : xX} {b L : Nat} {xs : Nat → Int32} {n k t : Nat} {hx hm : xHp} {out : Nat → Int64} (hShp : ∀ hx hm, Inv hx hm → xShp hx hm) (hShq : ∀ hx hm, Iny hx hm → xShp hx hm) (hS : xSt Inv Iny l yX9_lose yX10_lose j9_lose j10_lose (fun as => as.length = 0)) (hW : xLw X b L xs) (hl : X.1.2.1 = l) (hI : Inv hx hm) (ht : 6 * t + 6 ≤ L) (hL : L ≤ 3072) (hn : n + 1101 ≤ 601024) (hk : k + 6606 ≤ 7293034) (kk : xLwK Iny l X b L xs n k t) : xV jL_law X n k (hLw hx hm out) 339 [(4, .int (Int32.ofNat (6 * t))), (0, .ref 2000), (1, .ref 0), (2, .ref 81), (3, .ref 101)] [] := by
  obtain ⟨hlx, hlm, ⟨fx, hx0⟩, ⟨fm, hm0⟩, hsx⟩ := hShp hx hm hI
  refine xV_aload_n 340 rfl dL_law_339 rfl 2 rfl ?_
  obtain ⟨v, hx2, hm2, hc9, hc10, hI2⟩ := hS [] hx hm hI (by exact rfl)
  obtain ⟨hlx2, hlm2, ⟨fx2, hx02⟩, ⟨fm2, hm02⟩, hsx2⟩ := hShq hx2 hm2 hI2
  refine xV_pre (J := jL_law) (X := X) (pc := 340) (h := hx) (h' := hx2) (t := hm.map (xe (fun j => 81 + j)) ++ [.inl (1, 1, .inr (.inl out))]) (rest := []) (av2 := []) 343 rfl dL_law_340 hl hc9 m9_lose v9_lose (List.mem_of_getElem? (i := 524) (by decide +kernel)) (hlx2.trans hlx.symm) rfl (xAt0 hx0) rfl rfl (Nat.le_of_ble_eq_true rfl) (Nat.le_of_ble_eq_true rfl) (Nat.le_of_ble_eq_true rfl) ⟨xz1 hn, xz1 hk⟩ ?_
  refine xV_eq (n' := n) (k' := k) (Nat.add_zero n) (Nat.add_zero k) ?_
  show xV jL_law X n k (hLw hx2 hm out) 343 [(4, .int (Int32.ofNat (6 * t))), (0, .ref 2000), (1, .ref 0), (2, .ref 81), (3, .ref 101)] [.int v]
  refine xV_aload_n 344 rfl dL_law_343 rfl 3 rfl ?_
  refine xV_mid (hx := hx2) (hm := hm) (hm' := hm2) (t := [.inl (1, 1, .inr (.inl out))]) (rest := [.int v]) (av2 := []) 81 hlx2 347 rfl dL_law_344 hl hc10 m10_lose v10_lose (List.mem_of_getElem? (i := 528) (by decide +kernel)) (hlm2.trans hlm.symm) rfl rfl rfl hm0 rfl rfl (Nat.le_of_ble_eq_true rfl) (Nat.le_of_ble_eq_true rfl) (Nat.le_of_ble_eq_true rfl) ⟨xz1 hn, xz1 hk⟩ ?_
  refine xV_eq (n' := n) (k' := k) (Nat.add_zero n) (Nat.add_zero k) ?_
  show xV jL_law X n k (hLw hx2 hm2 out) 347 [(4, .int (Int32.ofNat (6 * t))), (0, .ref 2000), (1, .ref 0), (2, .ref 81), (3, .ref 101)] [.int v, .int v]
  refine xV_icmp_eq (tgt := 1676) 350 rfl dL_law_347 (by decide) (fun _ => ?_) (fun hq => absurd rfl hq)
  exact kk X n k hx2 hm2 out hW hl (by omega) (by omega) hI2
theorem dL_law_352 : decode cL_law 352 = .ok (.aload_n 1, 1) := by decide +kernel
theorem dL_law_353 : decode cL_law 353 = .ok (.aload_n 0, 1) := by decide +kernel
theorem dL_law_354 : decode cL_law 354 = .ok (.iload 4, 2) := by decide +kernel
theorem dL_law_356 : decode cL_law 356 = .ok (.iconst 1, 1) := by decide +kernel
theorem dL_law_357 : decode cL_law 357 = .ok (.iadd, 1) := by decide +kernel
theorem dL_law_358 : decode cL_law 358 = .ok (.iaload, 1) := by decide +kernel
theorem dL_law_359 : decode cL_law 359 = .ok (.aload_n 0, 1) := by decide +kernel
theorem dL_law_360 : decode cL_law 360 = .ok (.iload 4, 2) := by decide +kernel
theorem dL_law_362 : decode cL_law 362 = .ok (.iconst 2, 1) := by decide +kernel
theorem dL_law_363 : decode cL_law 363 = .ok (.iadd, 1) := by decide +kernel
theorem dL_law_364 : decode cL_law 364 = .ok (.iaload, 1) := by decide +kernel
theorem dL_law_365 : decode cL_law 365 = .ok (.invokevirtual 38, 3) := by decide +kernel
theorem dL_law_368 : decode cL_law 368 = .ok (.aload_n 2, 1) := by decide +kernel
theorem dL_law_369 : decode cL_law 369 = .ok (.aload_n 0, 1) := by decide +kernel
theorem dL_law_370 : decode cL_law 370 = .ok (.iload 4, 2) := by decide +kernel
theorem dL_law_372 : decode cL_law 372 = .ok (.iconst 1, 1) := by decide +kernel
theorem dL_law_373 : decode cL_law 373 = .ok (.iadd, 1) := by decide +kernel
theorem dL_law_374 : decode cL_law 374 = .ok (.iaload, 1) := by decide +kernel
theorem dL_law_375 : decode cL_law 375 = .ok (.aload_n 0, 1) := by decide +kernel
theorem dL_law_376 : decode cL_law 376 = .ok (.iload 4, 2) := by decide +kernel
theorem dL_law_378 : decode cL_law 378 = .ok (.iconst 2, 1) := by decide +kernel
theorem dL_law_379 : decode cL_law 379 = .ok (.iadd, 1) := by decide +kernel
theorem dL_law_380 : decode cL_law 380 = .ok (.iaload, 1) := by decide +kernel
theorem dL_law_381 : decode cL_law 381 = .ok (.invokevirtual 41, 3) := by decide +kernel
theorem dL_law_384 : decode cL_law 384 = .ok (.if_icmp .eq 1292, 3) := by decide +kernel
theorem Lw_forces {Inv Iny : xHp → xHp → Prop} {l : Launch} {X : xX} {b L : Nat} {xs : Nat → Int32} {n k t : Nat} {hx hm : xHp} {out : Nat → Int64} (hShp : ∀ hx hm, Inv hx hm → xShp hx hm) (hShq : ∀ hx hm, Iny hx hm → xShp hx hm) (hS : xSt Inv Iny l yX9_forces yX10_forces j9_forces j10_forces (fun as => as.length = 2)) (hW : xLw X b L xs) (hl : X.1.2.1 = l) (hI : Inv hx hm) (ht : 6 * t + 6 ≤ L) (hL : L ≤ 3072) (hn : n + 1101 ≤ 601024) (hk : k + 6606 ≤ 7293034) (kk : xLwK Iny l X b L xs n k t) : xV jL_law X n k (hLw hx hm out) 352 [(4, .int (Int32.ofNat (6 * t))), (0, .ref 2000), (1, .ref 0), (2, .ref 81), (3, .ref 101)] [] := by
  obtain ⟨hlx, hlm, ⟨fx, hx0⟩, ⟨fm, hm0⟩, hsx⟩ := hShp hx hm hI
  refine xV_aload_n 353 rfl dL_law_352 rfl 2 rfl ?_
  refine xV_aload_n 354 rfl dL_law_353 rfl 1 rfl ?_
  refine xV_iload 356 rfl dL_law_354 0 rfl ?_
  refine xV_iconst (v := 1) 357 rfl dL_law_356 (by decide) ?_
  refine xV_iadd 358 rfl dL_law_357 ?_
  refine xV_sld 359 rfl hW dL_law_358 (xArgI 1 (by decide) ht hL) (xArgJ 1 (by decide) ht hL) ?_
  refine xV_aload_n 360 rfl dL_law_359 rfl 1 rfl ?_
  refine xV_iload 362 rfl dL_law_360 0 rfl ?_
  refine xV_iconst (v := 2) 363 rfl dL_law_362 (by decide) ?_
  refine xV_iadd 364 rfl dL_law_363 ?_
  refine xV_sld 365 rfl hW dL_law_364 (xArgI 2 (by decide) ht hL) (xArgJ 2 (by decide) ht hL) ?_
  obtain ⟨v, hx2, hm2, hc9, hc10, hI2⟩ := hS [(xs (6 * t + 1)), (xs (6 * t + 2))] hx hm hI (by exact rfl)
  obtain ⟨hlx2, hlm2, ⟨fx2, hx02⟩, ⟨fm2, hm02⟩, hsx2⟩ := hShq hx2 hm2 hI2
  refine xV_pre (J := jL_law) (X := X) (pc := 365) (h := hx) (h' := hx2) (t := hm.map (xe (fun j => 81 + j)) ++ [.inl (1, 1, .inr (.inl out))]) (rest := []) (av2 := [.int (xs (6 * t + 1)), .int (xs (6 * t + 2))]) 368 rfl dL_law_365 hl hc9 m9_forces v9_forces (List.mem_of_getElem? (i := 532) (by decide +kernel)) (hlx2.trans hlx.symm) rfl (xAt0 hx0) rfl rfl (Nat.le_of_ble_eq_true rfl) (Nat.le_of_ble_eq_true rfl) (Nat.le_of_ble_eq_true rfl) ⟨xz1 hn, xz1 hk⟩ ?_
  refine xV_eq (n' := n) (k' := k) (Nat.add_zero n) (Nat.add_zero k) ?_
  show xV jL_law X n k (hLw hx2 hm out) 368 [(4, .int (Int32.ofNat (6 * t))), (0, .ref 2000), (1, .ref 0), (2, .ref 81), (3, .ref 101)] [.int v]
  refine xV_aload_n 369 rfl dL_law_368 rfl 3 rfl ?_
  refine xV_aload_n 370 rfl dL_law_369 rfl 1 rfl ?_
  refine xV_iload 372 rfl dL_law_370 0 rfl ?_
  refine xV_iconst (v := 1) 373 rfl dL_law_372 (by decide) ?_
  refine xV_iadd 374 rfl dL_law_373 ?_
  refine xV_sld 375 rfl hW dL_law_374 (xArgI 1 (by decide) ht hL) (xArgJ 1 (by decide) ht hL) ?_
  refine xV_aload_n 376 rfl dL_law_375 rfl 1 rfl ?_
  refine xV_iload 378 rfl dL_law_376 0 rfl ?_
  refine xV_iconst (v := 2) 379 rfl dL_law_378 (by decide) ?_
  refine xV_iadd 380 rfl dL_law_379 ?_
  refine xV_sld 381 rfl hW dL_law_380 (xArgI 2 (by decide) ht hL) (xArgJ 2 (by decide) ht hL) ?_
  refine xV_mid (hx := hx2) (hm := hm) (hm' := hm2) (t := [.inl (1, 1, .inr (.inl out))]) (rest := [.int v]) (av2 := [.int (xs (6 * t + 1)), .int (xs (6 * t + 2))]) 81 hlx2 384 rfl dL_law_381 hl hc10 m10_forces v10_forces (List.mem_of_getElem? (i := 538) (by decide +kernel)) (hlm2.trans hlm.symm) rfl rfl rfl hm0 rfl rfl (Nat.le_of_ble_eq_true rfl) (Nat.le_of_ble_eq_true rfl) (Nat.le_of_ble_eq_true rfl) ⟨xz1 hn, xz1 hk⟩ ?_
  refine xV_eq (n' := n) (k' := k) (Nat.add_zero n) (Nat.add_zero k) ?_
  show xV jL_law X n k (hLw hx2 hm2 out) 384 [(4, .int (Int32.ofNat (6 * t))), (0, .ref 2000), (1, .ref 0), (2, .ref 81), (3, .ref 101)] [.int v, .int v]
  refine xV_icmp_eq (tgt := 1676) 387 rfl dL_law_384 (by decide) (fun _ => ?_) (fun hq => absurd rfl hq)
  exact kk X n k hx2 hm2 out hW hl (by omega) (by omega) hI2
theorem dL_law_389 : decode cL_law 389 = .ok (.aload_n 1, 1) := by decide +kernel
theorem dL_law_390 : decode cL_law 390 = .ok (.aload_n 0, 1) := by decide +kernel
theorem dL_law_391 : decode cL_law 391 = .ok (.iload 4, 2) := by decide +kernel
theorem dL_law_393 : decode cL_law 393 = .ok (.iconst 1, 1) := by decide +kernel
theorem dL_law_394 : decode cL_law 394 = .ok (.iadd, 1) := by decide +kernel
theorem dL_law_395 : decode cL_law 395 = .ok (.iaload, 1) := by decide +kernel
theorem dL_law_396 : decode cL_law 396 = .ok (.invokevirtual 42, 3) := by decide +kernel
theorem dL_law_399 : decode cL_law 399 = .ok (.aload_n 2, 1) := by decide +kernel
theorem dL_law_400 : decode cL_law 400 = .ok (.aload_n 0, 1) := by decide +kernel
theorem dL_law_401 : decode cL_law 401 = .ok (.iload 4, 2) := by decide +kernel
theorem dL_law_403 : decode cL_law 403 = .ok (.iconst 1, 1) := by decide +kernel
theorem dL_law_404 : decode cL_law 404 = .ok (.iadd, 1) := by decide +kernel
theorem dL_law_405 : decode cL_law 405 = .ok (.iaload, 1) := by decide +kernel
theorem dL_law_406 : decode cL_law 406 = .ok (.invokevirtual 45, 3) := by decide +kernel
theorem dL_law_409 : decode cL_law 409 = .ok (.if_icmp .eq 1267, 3) := by decide +kernel
theorem Lw_ties {Inv Iny : xHp → xHp → Prop} {l : Launch} {X : xX} {b L : Nat} {xs : Nat → Int32} {n k t : Nat} {hx hm : xHp} {out : Nat → Int64} (hShp : ∀ hx hm, Inv hx hm → xShp hx hm) (hShq : ∀ hx hm, Iny hx hm → xShp hx hm) (hS : xSt Inv Iny l yX9_ties yX10_ties j9_ties j10_ties (fun as => as.length = 1)) (hW : xLw X b L xs) (hl : X.1.2.1 = l) (hI : Inv hx hm) (ht : 6 * t + 6 ≤ L) (hL : L ≤ 3072) (hn : n + 1101 ≤ 601024) (hk : k + 6606 ≤ 7293034) (kk : xLwK Iny l X b L xs n k t) : xV jL_law X n k (hLw hx hm out) 389 [(4, .int (Int32.ofNat (6 * t))), (0, .ref 2000), (1, .ref 0), (2, .ref 81), (3, .ref 101)] [] := by
  obtain ⟨hlx, hlm, ⟨fx, hx0⟩, ⟨fm, hm0⟩, hsx⟩ := hShp hx hm hI
  refine xV_aload_n 390 rfl dL_law_389 rfl 2 rfl ?_
  refine xV_aload_n 391 rfl dL_law_390 rfl 1 rfl ?_
  refine xV_iload 393 rfl dL_law_391 0 rfl ?_
  refine xV_iconst (v := 1) 394 rfl dL_law_393 (by decide) ?_
  refine xV_iadd 395 rfl dL_law_394 ?_
  refine xV_sld 396 rfl hW dL_law_395 (xArgI 1 (by decide) ht hL) (xArgJ 1 (by decide) ht hL) ?_
  obtain ⟨v, hx2, hm2, hc9, hc10, hI2⟩ := hS [(xs (6 * t + 1))] hx hm hI (by exact rfl)
  obtain ⟨hlx2, hlm2, ⟨fx2, hx02⟩, ⟨fm2, hm02⟩, hsx2⟩ := hShq hx2 hm2 hI2
  refine xV_pre (J := jL_law) (X := X) (pc := 396) (h := hx) (h' := hx2) (t := hm.map (xe (fun j => 81 + j)) ++ [.inl (1, 1, .inr (.inl out))]) (rest := []) (av2 := [.int (xs (6 * t + 1))]) 399 rfl dL_law_396 hl hc9 m9_ties v9_ties (List.mem_of_getElem? (i := 545) (by decide +kernel)) (hlx2.trans hlx.symm) rfl (xAt0 hx0) rfl rfl (Nat.le_of_ble_eq_true rfl) (Nat.le_of_ble_eq_true rfl) (Nat.le_of_ble_eq_true rfl) ⟨xz1 hn, xz1 hk⟩ ?_
  refine xV_eq (n' := n) (k' := k) (Nat.add_zero n) (Nat.add_zero k) ?_
  show xV jL_law X n k (hLw hx2 hm out) 399 [(4, .int (Int32.ofNat (6 * t))), (0, .ref 2000), (1, .ref 0), (2, .ref 81), (3, .ref 101)] [.int v]
  refine xV_aload_n 400 rfl dL_law_399 rfl 3 rfl ?_
  refine xV_aload_n 401 rfl dL_law_400 rfl 1 rfl ?_
  refine xV_iload 403 rfl dL_law_401 0 rfl ?_
  refine xV_iconst (v := 1) 404 rfl dL_law_403 (by decide) ?_
  refine xV_iadd 405 rfl dL_law_404 ?_
  refine xV_sld 406 rfl hW dL_law_405 (xArgI 1 (by decide) ht hL) (xArgJ 1 (by decide) ht hL) ?_
  refine xV_mid (hx := hx2) (hm := hm) (hm' := hm2) (t := [.inl (1, 1, .inr (.inl out))]) (rest := [.int v]) (av2 := [.int (xs (6 * t + 1))]) 81 hlx2 409 rfl dL_law_406 hl hc10 m10_ties v10_ties (List.mem_of_getElem? (i := 550) (by decide +kernel)) (hlm2.trans hlm.symm) rfl rfl rfl hm0 rfl rfl (Nat.le_of_ble_eq_true rfl) (Nat.le_of_ble_eq_true rfl) (Nat.le_of_ble_eq_true rfl) ⟨xz1 hn, xz1 hk⟩ ?_
  refine xV_eq (n' := n) (k' := k) (Nat.add_zero n) (Nat.add_zero k) ?_
  show xV jL_law X n k (hLw hx2 hm2 out) 409 [(4, .int (Int32.ofNat (6 * t))), (0, .ref 2000), (1, .ref 0), (2, .ref 81), (3, .ref 101)] [.int v, .int v]
  refine xV_icmp_eq (tgt := 1676) 412 rfl dL_law_409 (by decide) (fun _ => ?_) (fun hq => absurd rfl hq)
  exact kk X n k hx2 hm2 out hW hl (by omega) (by omega) hI2
theorem dL_law_414 : decode cL_law 414 = .ok (.aload_n 1, 1) := by decide +kernel
theorem dL_law_415 : decode cL_law 415 = .ok (.aload_n 0, 1) := by decide +kernel
theorem dL_law_416 : decode cL_law 416 = .ok (.iload 4, 2) := by decide +kernel
theorem dL_law_418 : decode cL_law 418 = .ok (.iconst 1, 1) := by decide +kernel
theorem dL_law_419 : decode cL_law 419 = .ok (.iadd, 1) := by decide +kernel
theorem dL_law_420 : decode cL_law 420 = .ok (.iaload, 1) := by decide +kernel
theorem dL_law_421 : decode cL_law 421 = .ok (.invokevirtual 46, 3) := by decide +kernel
theorem dL_law_424 : decode cL_law 424 = .ok (.aload_n 2, 1) := by decide +kernel
theorem dL_law_425 : decode cL_law 425 = .ok (.aload_n 0, 1) := by decide +kernel
theorem dL_law_426 : decode cL_law 426 = .ok (.iload 4, 2) := by decide +kernel
theorem dL_law_428 : decode cL_law 428 = .ok (.iconst 1, 1) := by decide +kernel
theorem dL_law_429 : decode cL_law 429 = .ok (.iadd, 1) := by decide +kernel
theorem dL_law_430 : decode cL_law 430 = .ok (.iaload, 1) := by decide +kernel
theorem dL_law_431 : decode cL_law 431 = .ok (.invokevirtual 49, 3) := by decide +kernel
theorem dL_law_434 : decode cL_law 434 = .ok (.if_icmp .eq 1242, 3) := by decide +kernel
theorem Lw_splits {Inv Iny : xHp → xHp → Prop} {l : Launch} {X : xX} {b L : Nat} {xs : Nat → Int32} {n k t : Nat} {hx hm : xHp} {out : Nat → Int64} (hShp : ∀ hx hm, Inv hx hm → xShp hx hm) (hShq : ∀ hx hm, Iny hx hm → xShp hx hm) (hS : xSt Inv Iny l yX9_splits yX10_splits j9_splits j10_splits (fun as => as.length = 1)) (hW : xLw X b L xs) (hl : X.1.2.1 = l) (hI : Inv hx hm) (ht : 6 * t + 6 ≤ L) (hL : L ≤ 3072) (hn : n + 1101 ≤ 601024) (hk : k + 6606 ≤ 7293034) (kk : xLwK Iny l X b L xs n k t) : xV jL_law X n k (hLw hx hm out) 414 [(4, .int (Int32.ofNat (6 * t))), (0, .ref 2000), (1, .ref 0), (2, .ref 81), (3, .ref 101)] [] := by
  obtain ⟨hlx, hlm, ⟨fx, hx0⟩, ⟨fm, hm0⟩, hsx⟩ := hShp hx hm hI
  refine xV_aload_n 415 rfl dL_law_414 rfl 2 rfl ?_
  refine xV_aload_n 416 rfl dL_law_415 rfl 1 rfl ?_
  refine xV_iload 418 rfl dL_law_416 0 rfl ?_
  refine xV_iconst (v := 1) 419 rfl dL_law_418 (by decide) ?_
  refine xV_iadd 420 rfl dL_law_419 ?_
  refine xV_sld 421 rfl hW dL_law_420 (xArgI 1 (by decide) ht hL) (xArgJ 1 (by decide) ht hL) ?_
  obtain ⟨v, hx2, hm2, hc9, hc10, hI2⟩ := hS [(xs (6 * t + 1))] hx hm hI (by exact rfl)
  obtain ⟨hlx2, hlm2, ⟨fx2, hx02⟩, ⟨fm2, hm02⟩, hsx2⟩ := hShq hx2 hm2 hI2
  refine xV_pre (J := jL_law) (X := X) (pc := 421) (h := hx) (h' := hx2) (t := hm.map (xe (fun j => 81 + j)) ++ [.inl (1, 1, .inr (.inl out))]) (rest := []) (av2 := [.int (xs (6 * t + 1))]) 424 rfl dL_law_421 hl hc9 m9_splits v9_splits (List.mem_of_getElem? (i := 554) (by decide +kernel)) (hlx2.trans hlx.symm) rfl (xAt0 hx0) rfl rfl (Nat.le_of_ble_eq_true rfl) (Nat.le_of_ble_eq_true rfl) (Nat.le_of_ble_eq_true rfl) ⟨xz1 hn, xz1 hk⟩ ?_
  refine xV_eq (n' := n) (k' := k) (Nat.add_zero n) (Nat.add_zero k) ?_
  show xV jL_law X n k (hLw hx2 hm out) 424 [(4, .int (Int32.ofNat (6 * t))), (0, .ref 2000), (1, .ref 0), (2, .ref 81), (3, .ref 101)] [.int v]
  refine xV_aload_n 425 rfl dL_law_424 rfl 3 rfl ?_
  refine xV_aload_n 426 rfl dL_law_425 rfl 1 rfl ?_
  refine xV_iload 428 rfl dL_law_426 0 rfl ?_
  refine xV_iconst (v := 1) 429 rfl dL_law_428 (by decide) ?_
  refine xV_iadd 430 rfl dL_law_429 ?_
  refine xV_sld 431 rfl hW dL_law_430 (xArgI 1 (by decide) ht hL) (xArgJ 1 (by decide) ht hL) ?_
  refine xV_mid (hx := hx2) (hm := hm) (hm' := hm2) (t := [.inl (1, 1, .inr (.inl out))]) (rest := [.int v]) (av2 := [.int (xs (6 * t + 1))]) 81 hlx2 434 rfl dL_law_431 hl hc10 m10_splits v10_splits (List.mem_of_getElem? (i := 559) (by decide +kernel)) (hlm2.trans hlm.symm) rfl rfl rfl hm0 rfl rfl (Nat.le_of_ble_eq_true rfl) (Nat.le_of_ble_eq_true rfl) (Nat.le_of_ble_eq_true rfl) ⟨xz1 hn, xz1 hk⟩ ?_
  refine xV_eq (n' := n) (k' := k) (Nat.add_zero n) (Nat.add_zero k) ?_
  show xV jL_law X n k (hLw hx2 hm2 out) 434 [(4, .int (Int32.ofNat (6 * t))), (0, .ref 2000), (1, .ref 0), (2, .ref 81), (3, .ref 101)] [.int v, .int v]
  refine xV_icmp_eq (tgt := 1676) 437 rfl dL_law_434 (by decide) (fun _ => ?_) (fun hq => absurd rfl hq)
  exact kk X n k hx2 hm2 out hW hl (by omega) (by omega) hI2
theorem dL_law_507 : decode cL_law 507 = .ok (.aload_n 1, 1) := by decide +kernel
theorem dL_law_508 : decode cL_law 508 = .ok (.aload_n 0, 1) := by decide +kernel
theorem dL_law_509 : decode cL_law 509 = .ok (.iload 4, 2) := by decide +kernel
theorem dL_law_511 : decode cL_law 511 = .ok (.iconst 1, 1) := by decide +kernel
theorem dL_law_512 : decode cL_law 512 = .ok (.iadd, 1) := by decide +kernel
theorem dL_law_513 : decode cL_law 513 = .ok (.iaload, 1) := by decide +kernel
theorem dL_law_514 : decode cL_law 514 = .ok (.aload_n 0, 1) := by decide +kernel
theorem dL_law_515 : decode cL_law 515 = .ok (.iload 4, 2) := by decide +kernel
theorem dL_law_517 : decode cL_law 517 = .ok (.iconst 2, 1) := by decide +kernel
theorem dL_law_518 : decode cL_law 518 = .ok (.iadd, 1) := by decide +kernel
theorem dL_law_519 : decode cL_law 519 = .ok (.iaload, 1) := by decide +kernel
theorem dL_law_520 : decode cL_law 520 = .ok (.invokevirtual 59, 3) := by decide +kernel
theorem dL_law_523 : decode cL_law 523 = .ok (.aload_n 2, 1) := by decide +kernel
theorem dL_law_524 : decode cL_law 524 = .ok (.aload_n 0, 1) := by decide +kernel
theorem dL_law_525 : decode cL_law 525 = .ok (.iload 4, 2) := by decide +kernel
theorem dL_law_527 : decode cL_law 527 = .ok (.iconst 1, 1) := by decide +kernel
theorem dL_law_528 : decode cL_law 528 = .ok (.iadd, 1) := by decide +kernel
theorem dL_law_529 : decode cL_law 529 = .ok (.iaload, 1) := by decide +kernel
theorem dL_law_530 : decode cL_law 530 = .ok (.aload_n 0, 1) := by decide +kernel
theorem dL_law_531 : decode cL_law 531 = .ok (.iload 4, 2) := by decide +kernel
theorem dL_law_533 : decode cL_law 533 = .ok (.iconst 2, 1) := by decide +kernel
theorem dL_law_534 : decode cL_law 534 = .ok (.iadd, 1) := by decide +kernel
theorem dL_law_535 : decode cL_law 535 = .ok (.iaload, 1) := by decide +kernel
theorem dL_law_536 : decode cL_law 536 = .ok (.invokevirtual 62, 3) := by decide +kernel
theorem dL_law_539 : decode cL_law 539 = .ok (.if_icmp .eq 1137, 3) := by decide +kernel
theorem Lw_number {Inv Iny : xHp → xHp → Prop} {l : Launch} {X : xX} {b L : Nat} {xs : Nat → Int32} {n k t : Nat} {hx hm : xHp} {out : Nat → Int64} (hShp : ∀ hx hm, Inv hx hm → xShp hx hm) (hShq : ∀ hx hm, Iny hx hm → xShp hx hm) (hS : xSt Inv Iny l yX9_number yX10_number j9_number j10_number (fun as => as.length = 2)) (hW : xLw X b L xs) (hl : X.1.2.1 = l) (hI : Inv hx hm) (ht : 6 * t + 6 ≤ L) (hL : L ≤ 3072) (hn : n + 1101 ≤ 601024) (hk : k + 6606 ≤ 7293034) (kk : xLwK Iny l X b L xs n k t) : xV jL_law X n k (hLw hx hm out) 507 [(4, .int (Int32.ofNat (6 * t))), (0, .ref 2000), (1, .ref 0), (2, .ref 81), (3, .ref 101)] [] := by
  obtain ⟨hlx, hlm, ⟨fx, hx0⟩, ⟨fm, hm0⟩, hsx⟩ := hShp hx hm hI
  refine xV_aload_n 508 rfl dL_law_507 rfl 2 rfl ?_
  refine xV_aload_n 509 rfl dL_law_508 rfl 1 rfl ?_
  refine xV_iload 511 rfl dL_law_509 0 rfl ?_
  refine xV_iconst (v := 1) 512 rfl dL_law_511 (by decide) ?_
  refine xV_iadd 513 rfl dL_law_512 ?_
  refine xV_sld 514 rfl hW dL_law_513 (xArgI 1 (by decide) ht hL) (xArgJ 1 (by decide) ht hL) ?_
  refine xV_aload_n 515 rfl dL_law_514 rfl 1 rfl ?_
  refine xV_iload 517 rfl dL_law_515 0 rfl ?_
  refine xV_iconst (v := 2) 518 rfl dL_law_517 (by decide) ?_
  refine xV_iadd 519 rfl dL_law_518 ?_
  refine xV_sld 520 rfl hW dL_law_519 (xArgI 2 (by decide) ht hL) (xArgJ 2 (by decide) ht hL) ?_
  obtain ⟨v, hx2, hm2, hc9, hc10, hI2⟩ := hS [(xs (6 * t + 1)), (xs (6 * t + 2))] hx hm hI (by exact rfl)
  obtain ⟨hlx2, hlm2, ⟨fx2, hx02⟩, ⟨fm2, hm02⟩, hsx2⟩ := hShq hx2 hm2 hI2
  refine xV_pre (J := jL_law) (X := X) (pc := 520) (h := hx) (h' := hx2) (t := hm.map (xe (fun j => 81 + j)) ++ [.inl (1, 1, .inr (.inl out))]) (rest := []) (av2 := [.int (xs (6 * t + 1)), .int (xs (6 * t + 2))]) 523 rfl dL_law_520 hl hc9 m9_number v9_number (List.mem_of_getElem? (i := 591) (by decide +kernel)) (hlx2.trans hlx.symm) rfl (xAt0 hx0) rfl rfl (Nat.le_of_ble_eq_true rfl) (Nat.le_of_ble_eq_true rfl) (Nat.le_of_ble_eq_true rfl) ⟨xz1 hn, xz1 hk⟩ ?_
  refine xV_eq (n' := n) (k' := k) (Nat.add_zero n) (Nat.add_zero k) ?_
  show xV jL_law X n k (hLw hx2 hm out) 523 [(4, .int (Int32.ofNat (6 * t))), (0, .ref 2000), (1, .ref 0), (2, .ref 81), (3, .ref 101)] [.int v]
  refine xV_aload_n 524 rfl dL_law_523 rfl 3 rfl ?_
  refine xV_aload_n 525 rfl dL_law_524 rfl 1 rfl ?_
  refine xV_iload 527 rfl dL_law_525 0 rfl ?_
  refine xV_iconst (v := 1) 528 rfl dL_law_527 (by decide) ?_
  refine xV_iadd 529 rfl dL_law_528 ?_
  refine xV_sld 530 rfl hW dL_law_529 (xArgI 1 (by decide) ht hL) (xArgJ 1 (by decide) ht hL) ?_
  refine xV_aload_n 531 rfl dL_law_530 rfl 1 rfl ?_
  refine xV_iload 533 rfl dL_law_531 0 rfl ?_
  refine xV_iconst (v := 2) 534 rfl dL_law_533 (by decide) ?_
  refine xV_iadd 535 rfl dL_law_534 ?_
  refine xV_sld 536 rfl hW dL_law_535 (xArgI 2 (by decide) ht hL) (xArgJ 2 (by decide) ht hL) ?_
  refine xV_mid (hx := hx2) (hm := hm) (hm' := hm2) (t := [.inl (1, 1, .inr (.inl out))]) (rest := [.int v]) (av2 := [.int (xs (6 * t + 1)), .int (xs (6 * t + 2))]) 81 hlx2 539 rfl dL_law_536 hl hc10 m10_number v10_number (List.mem_of_getElem? (i := 596) (by decide +kernel)) (hlm2.trans hlm.symm) rfl rfl rfl hm0 rfl rfl (Nat.le_of_ble_eq_true rfl) (Nat.le_of_ble_eq_true rfl) (Nat.le_of_ble_eq_true rfl) ⟨xz1 hn, xz1 hk⟩ ?_
  refine xV_eq (n' := n) (k' := k) (Nat.add_zero n) (Nat.add_zero k) ?_
  show xV jL_law X n k (hLw hx2 hm2 out) 539 [(4, .int (Int32.ofNat (6 * t))), (0, .ref 2000), (1, .ref 0), (2, .ref 81), (3, .ref 101)] [.int v, .int v]
  refine xV_icmp_eq (tgt := 1676) 542 rfl dL_law_539 (by decide) (fun _ => ?_) (fun hq => absurd rfl hq)
  exact kk X n k hx2 hm2 out hW hl (by omega) (by omega) hI2
theorem dL_law_544 : decode cL_law 544 = .ok (.aload_n 1, 1) := by decide +kernel
theorem dL_law_545 : decode cL_law 545 = .ok (.aload_n 0, 1) := by decide +kernel
theorem dL_law_546 : decode cL_law 546 = .ok (.iload 4, 2) := by decide +kernel
theorem dL_law_548 : decode cL_law 548 = .ok (.iconst 1, 1) := by decide +kernel
theorem dL_law_549 : decode cL_law 549 = .ok (.iadd, 1) := by decide +kernel
theorem dL_law_550 : decode cL_law 550 = .ok (.iaload, 1) := by decide +kernel
theorem dL_law_551 : decode cL_law 551 = .ok (.aload_n 0, 1) := by decide +kernel
theorem dL_law_552 : decode cL_law 552 = .ok (.iload 4, 2) := by decide +kernel
theorem dL_law_554 : decode cL_law 554 = .ok (.iconst 2, 1) := by decide +kernel
theorem dL_law_555 : decode cL_law 555 = .ok (.iadd, 1) := by decide +kernel
theorem dL_law_556 : decode cL_law 556 = .ok (.iaload, 1) := by decide +kernel
theorem dL_law_557 : decode cL_law 557 = .ok (.invokevirtual 63, 3) := by decide +kernel
theorem dL_law_560 : decode cL_law 560 = .ok (.aload_n 2, 1) := by decide +kernel
theorem dL_law_561 : decode cL_law 561 = .ok (.aload_n 0, 1) := by decide +kernel
theorem dL_law_562 : decode cL_law 562 = .ok (.iload 4, 2) := by decide +kernel
theorem dL_law_564 : decode cL_law 564 = .ok (.iconst 1, 1) := by decide +kernel
theorem dL_law_565 : decode cL_law 565 = .ok (.iadd, 1) := by decide +kernel
theorem dL_law_566 : decode cL_law 566 = .ok (.iaload, 1) := by decide +kernel
theorem dL_law_567 : decode cL_law 567 = .ok (.aload_n 0, 1) := by decide +kernel
theorem dL_law_568 : decode cL_law 568 = .ok (.iload 4, 2) := by decide +kernel
theorem dL_law_570 : decode cL_law 570 = .ok (.iconst 2, 1) := by decide +kernel
theorem dL_law_571 : decode cL_law 571 = .ok (.iadd, 1) := by decide +kernel
theorem dL_law_572 : decode cL_law 572 = .ok (.iaload, 1) := by decide +kernel
theorem dL_law_573 : decode cL_law 573 = .ok (.invokevirtual 66, 3) := by decide +kernel
theorem dL_law_576 : decode cL_law 576 = .ok (.if_icmp .eq 1100, 3) := by decide +kernel
theorem Lw_gain {Inv Iny : xHp → xHp → Prop} {l : Launch} {X : xX} {b L : Nat} {xs : Nat → Int32} {n k t : Nat} {hx hm : xHp} {out : Nat → Int64} (hShp : ∀ hx hm, Inv hx hm → xShp hx hm) (hShq : ∀ hx hm, Iny hx hm → xShp hx hm) (hS : xSt Inv Iny l yX9_gain yX10_gain j9_gain j10_gain (fun as => as.length = 2)) (hW : xLw X b L xs) (hl : X.1.2.1 = l) (hI : Inv hx hm) (ht : 6 * t + 6 ≤ L) (hL : L ≤ 3072) (hn : n + 1101 ≤ 601024) (hk : k + 6606 ≤ 7293034) (kk : xLwK Iny l X b L xs n k t) : xV jL_law X n k (hLw hx hm out) 544 [(4, .int (Int32.ofNat (6 * t))), (0, .ref 2000), (1, .ref 0), (2, .ref 81), (3, .ref 101)] [] := by
  obtain ⟨hlx, hlm, ⟨fx, hx0⟩, ⟨fm, hm0⟩, hsx⟩ := hShp hx hm hI
  refine xV_aload_n 545 rfl dL_law_544 rfl 2 rfl ?_
  refine xV_aload_n 546 rfl dL_law_545 rfl 1 rfl ?_
  refine xV_iload 548 rfl dL_law_546 0 rfl ?_
  refine xV_iconst (v := 1) 549 rfl dL_law_548 (by decide) ?_
  refine xV_iadd 550 rfl dL_law_549 ?_
  refine xV_sld 551 rfl hW dL_law_550 (xArgI 1 (by decide) ht hL) (xArgJ 1 (by decide) ht hL) ?_
  refine xV_aload_n 552 rfl dL_law_551 rfl 1 rfl ?_
  refine xV_iload 554 rfl dL_law_552 0 rfl ?_
  refine xV_iconst (v := 2) 555 rfl dL_law_554 (by decide) ?_
  refine xV_iadd 556 rfl dL_law_555 ?_
  refine xV_sld 557 rfl hW dL_law_556 (xArgI 2 (by decide) ht hL) (xArgJ 2 (by decide) ht hL) ?_
  obtain ⟨v, hx2, hm2, hc9, hc10, hI2⟩ := hS [(xs (6 * t + 1)), (xs (6 * t + 2))] hx hm hI (by exact rfl)
  obtain ⟨hlx2, hlm2, ⟨fx2, hx02⟩, ⟨fm2, hm02⟩, hsx2⟩ := hShq hx2 hm2 hI2
  refine xV_pre (J := jL_law) (X := X) (pc := 557) (h := hx) (h' := hx2) (t := hm.map (xe (fun j => 81 + j)) ++ [.inl (1, 1, .inr (.inl out))]) (rest := []) (av2 := [.int (xs (6 * t + 1)), .int (xs (6 * t + 2))]) 560 rfl dL_law_557 hl hc9 m9_gain v9_gain (List.mem_of_getElem? (i := 604) (by decide +kernel)) (hlx2.trans hlx.symm) rfl (xAt0 hx0) rfl rfl (Nat.le_of_ble_eq_true rfl) (Nat.le_of_ble_eq_true rfl) (Nat.le_of_ble_eq_true rfl) ⟨xz1 hn, xz1 hk⟩ ?_
  refine xV_eq (n' := n) (k' := k) (Nat.add_zero n) (Nat.add_zero k) ?_
  show xV jL_law X n k (hLw hx2 hm out) 560 [(4, .int (Int32.ofNat (6 * t))), (0, .ref 2000), (1, .ref 0), (2, .ref 81), (3, .ref 101)] [.int v]
  refine xV_aload_n 561 rfl dL_law_560 rfl 3 rfl ?_
  refine xV_aload_n 562 rfl dL_law_561 rfl 1 rfl ?_
  refine xV_iload 564 rfl dL_law_562 0 rfl ?_
  refine xV_iconst (v := 1) 565 rfl dL_law_564 (by decide) ?_
  refine xV_iadd 566 rfl dL_law_565 ?_
  refine xV_sld 567 rfl hW dL_law_566 (xArgI 1 (by decide) ht hL) (xArgJ 1 (by decide) ht hL) ?_
  refine xV_aload_n 568 rfl dL_law_567 rfl 1 rfl ?_
  refine xV_iload 570 rfl dL_law_568 0 rfl ?_
  refine xV_iconst (v := 2) 571 rfl dL_law_570 (by decide) ?_
  refine xV_iadd 572 rfl dL_law_571 ?_
  refine xV_sld 573 rfl hW dL_law_572 (xArgI 2 (by decide) ht hL) (xArgJ 2 (by decide) ht hL) ?_
  refine xV_mid (hx := hx2) (hm := hm) (hm' := hm2) (t := [.inl (1, 1, .inr (.inl out))]) (rest := [.int v]) (av2 := [.int (xs (6 * t + 1)), .int (xs (6 * t + 2))]) 81 hlx2 576 rfl dL_law_573 hl hc10 m10_gain v10_gain (List.mem_of_getElem? (i := 620) (by decide +kernel)) (hlm2.trans hlm.symm) rfl rfl rfl hm0 rfl rfl (Nat.le_of_ble_eq_true rfl) (Nat.le_of_ble_eq_true rfl) (Nat.le_of_ble_eq_true rfl) ⟨xz1 hn, xz1 hk⟩ ?_
  refine xV_eq (n' := n) (k' := k) (Nat.add_zero n) (Nat.add_zero k) ?_
  show xV jL_law X n k (hLw hx2 hm2 out) 576 [(4, .int (Int32.ofNat (6 * t))), (0, .ref 2000), (1, .ref 0), (2, .ref 81), (3, .ref 101)] [.int v, .int v]
  refine xV_icmp_eq (tgt := 1676) 579 rfl dL_law_576 (by decide) (fun _ => ?_) (fun hq => absurd rfl hq)
  exact kk X n k hx2 hm2 out hW hl (by omega) (by omega) hI2
theorem dL_law_581 : decode cL_law 581 = .ok (.aload_n 1, 1) := by decide +kernel
theorem dL_law_582 : decode cL_law 582 = .ok (.aload_n 0, 1) := by decide +kernel
theorem dL_law_583 : decode cL_law 583 = .ok (.iload 4, 2) := by decide +kernel
theorem dL_law_585 : decode cL_law 585 = .ok (.iconst 1, 1) := by decide +kernel
theorem dL_law_586 : decode cL_law 586 = .ok (.iadd, 1) := by decide +kernel
theorem dL_law_587 : decode cL_law 587 = .ok (.iaload, 1) := by decide +kernel
theorem dL_law_588 : decode cL_law 588 = .ok (.invokevirtual 67, 3) := by decide +kernel
theorem dL_law_591 : decode cL_law 591 = .ok (.aload_n 2, 1) := by decide +kernel
theorem dL_law_592 : decode cL_law 592 = .ok (.aload_n 0, 1) := by decide +kernel
theorem dL_law_593 : decode cL_law 593 = .ok (.iload 4, 2) := by decide +kernel
theorem dL_law_595 : decode cL_law 595 = .ok (.iconst 1, 1) := by decide +kernel
theorem dL_law_596 : decode cL_law 596 = .ok (.iadd, 1) := by decide +kernel
theorem dL_law_597 : decode cL_law 597 = .ok (.iaload, 1) := by decide +kernel
theorem dL_law_598 : decode cL_law 598 = .ok (.invokevirtual 70, 3) := by decide +kernel
theorem dL_law_601 : decode cL_law 601 = .ok (.if_icmp .eq 1075, 3) := by decide +kernel
theorem Lw_shapes {Inv Iny : xHp → xHp → Prop} {l : Launch} {X : xX} {b L : Nat} {xs : Nat → Int32} {n k t : Nat} {hx hm : xHp} {out : Nat → Int64} (hShp : ∀ hx hm, Inv hx hm → xShp hx hm) (hShq : ∀ hx hm, Iny hx hm → xShp hx hm) (hS : xSt Inv Iny l yX9_shapes yX10_shapes j9_shapes j10_shapes (fun as => as.length = 1)) (hW : xLw X b L xs) (hl : X.1.2.1 = l) (hI : Inv hx hm) (ht : 6 * t + 6 ≤ L) (hL : L ≤ 3072) (hn : n + 1101 ≤ 601024) (hk : k + 6606 ≤ 7293034) (kk : xLwK Iny l X b L xs n k t) : xV jL_law X n k (hLw hx hm out) 581 [(4, .int (Int32.ofNat (6 * t))), (0, .ref 2000), (1, .ref 0), (2, .ref 81), (3, .ref 101)] [] := by
  obtain ⟨hlx, hlm, ⟨fx, hx0⟩, ⟨fm, hm0⟩, hsx⟩ := hShp hx hm hI
  refine xV_aload_n 582 rfl dL_law_581 rfl 2 rfl ?_
  refine xV_aload_n 583 rfl dL_law_582 rfl 1 rfl ?_
  refine xV_iload 585 rfl dL_law_583 0 rfl ?_
  refine xV_iconst (v := 1) 586 rfl dL_law_585 (by decide) ?_
  refine xV_iadd 587 rfl dL_law_586 ?_
  refine xV_sld 588 rfl hW dL_law_587 (xArgI 1 (by decide) ht hL) (xArgJ 1 (by decide) ht hL) ?_
  obtain ⟨v, hx2, hm2, hc9, hc10, hI2⟩ := hS [(xs (6 * t + 1))] hx hm hI (by exact rfl)
  obtain ⟨hlx2, hlm2, ⟨fx2, hx02⟩, ⟨fm2, hm02⟩, hsx2⟩ := hShq hx2 hm2 hI2
  refine xV_pre (J := jL_law) (X := X) (pc := 588) (h := hx) (h' := hx2) (t := hm.map (xe (fun j => 81 + j)) ++ [.inl (1, 1, .inr (.inl out))]) (rest := []) (av2 := [.int (xs (6 * t + 1))]) 591 rfl dL_law_588 hl hc9 m9_shapes v9_shapes (List.mem_of_getElem? (i := 624) (by decide +kernel)) (hlx2.trans hlx.symm) rfl (xAt0 hx0) rfl rfl (Nat.le_of_ble_eq_true rfl) (Nat.le_of_ble_eq_true rfl) (Nat.le_of_ble_eq_true rfl) ⟨xz1 hn, xz1 hk⟩ ?_
  refine xV_eq (n' := n) (k' := k) (Nat.add_zero n) (Nat.add_zero k) ?_
  show xV jL_law X n k (hLw hx2 hm out) 591 [(4, .int (Int32.ofNat (6 * t))), (0, .ref 2000), (1, .ref 0), (2, .ref 81), (3, .ref 101)] [.int v]
  refine xV_aload_n 592 rfl dL_law_591 rfl 3 rfl ?_
  refine xV_aload_n 593 rfl dL_law_592 rfl 1 rfl ?_
  refine xV_iload 595 rfl dL_law_593 0 rfl ?_
  refine xV_iconst (v := 1) 596 rfl dL_law_595 (by decide) ?_
  refine xV_iadd 597 rfl dL_law_596 ?_
  refine xV_sld 598 rfl hW dL_law_597 (xArgI 1 (by decide) ht hL) (xArgJ 1 (by decide) ht hL) ?_
  refine xV_mid (hx := hx2) (hm := hm) (hm' := hm2) (t := [.inl (1, 1, .inr (.inl out))]) (rest := [.int v]) (av2 := [.int (xs (6 * t + 1))]) 81 hlx2 601 rfl dL_law_598 hl hc10 m10_shapes v10_shapes (List.mem_of_getElem? (i := 640) (by decide +kernel)) (hlm2.trans hlm.symm) rfl rfl rfl hm0 rfl rfl (Nat.le_of_ble_eq_true rfl) (Nat.le_of_ble_eq_true rfl) (Nat.le_of_ble_eq_true rfl) ⟨xz1 hn, xz1 hk⟩ ?_
  refine xV_eq (n' := n) (k' := k) (Nat.add_zero n) (Nat.add_zero k) ?_
  show xV jL_law X n k (hLw hx2 hm2 out) 601 [(4, .int (Int32.ofNat (6 * t))), (0, .ref 2000), (1, .ref 0), (2, .ref 81), (3, .ref 101)] [.int v, .int v]
  refine xV_icmp_eq (tgt := 1676) 604 rfl dL_law_601 (by decide) (fun _ => ?_) (fun hq => absurd rfl hq)
  exact kk X n k hx2 hm2 out hW hl (by omega) (by omega) hI2
theorem dL_law_606 : decode cL_law 606 = .ok (.aload_n 1, 1) := by decide +kernel
theorem dL_law_607 : decode cL_law 607 = .ok (.aload_n 0, 1) := by decide +kernel
theorem dL_law_608 : decode cL_law 608 = .ok (.iload 4, 2) := by decide +kernel
theorem dL_law_610 : decode cL_law 610 = .ok (.iconst 1, 1) := by decide +kernel
theorem dL_law_611 : decode cL_law 611 = .ok (.iadd, 1) := by decide +kernel
theorem dL_law_612 : decode cL_law 612 = .ok (.iaload, 1) := by decide +kernel
theorem dL_law_613 : decode cL_law 613 = .ok (.aload_n 0, 1) := by decide +kernel
theorem dL_law_614 : decode cL_law 614 = .ok (.iload 4, 2) := by decide +kernel
theorem dL_law_616 : decode cL_law 616 = .ok (.iconst 2, 1) := by decide +kernel
theorem dL_law_617 : decode cL_law 617 = .ok (.iadd, 1) := by decide +kernel
theorem dL_law_618 : decode cL_law 618 = .ok (.iaload, 1) := by decide +kernel
theorem dL_law_619 : decode cL_law 619 = .ok (.aload_n 0, 1) := by decide +kernel
theorem dL_law_620 : decode cL_law 620 = .ok (.iload 4, 2) := by decide +kernel
theorem dL_law_622 : decode cL_law 622 = .ok (.iconst 3, 1) := by decide +kernel
theorem dL_law_623 : decode cL_law 623 = .ok (.iadd, 1) := by decide +kernel
theorem dL_law_624 : decode cL_law 624 = .ok (.iaload, 1) := by decide +kernel
theorem dL_law_625 : decode cL_law 625 = .ok (.invokevirtual 71, 3) := by decide +kernel
theorem dL_law_628 : decode cL_law 628 = .ok (.aload_n 2, 1) := by decide +kernel
theorem dL_law_629 : decode cL_law 629 = .ok (.aload_n 0, 1) := by decide +kernel
theorem dL_law_630 : decode cL_law 630 = .ok (.iload 4, 2) := by decide +kernel
theorem dL_law_632 : decode cL_law 632 = .ok (.iconst 1, 1) := by decide +kernel
theorem dL_law_633 : decode cL_law 633 = .ok (.iadd, 1) := by decide +kernel
theorem dL_law_634 : decode cL_law 634 = .ok (.iaload, 1) := by decide +kernel
theorem dL_law_635 : decode cL_law 635 = .ok (.aload_n 0, 1) := by decide +kernel
theorem dL_law_636 : decode cL_law 636 = .ok (.iload 4, 2) := by decide +kernel
theorem dL_law_638 : decode cL_law 638 = .ok (.iconst 2, 1) := by decide +kernel
theorem dL_law_639 : decode cL_law 639 = .ok (.iadd, 1) := by decide +kernel
theorem dL_law_640 : decode cL_law 640 = .ok (.iaload, 1) := by decide +kernel
theorem dL_law_641 : decode cL_law 641 = .ok (.aload_n 0, 1) := by decide +kernel
theorem dL_law_642 : decode cL_law 642 = .ok (.iload 4, 2) := by decide +kernel
theorem dL_law_644 : decode cL_law 644 = .ok (.iconst 3, 1) := by decide +kernel
theorem dL_law_645 : decode cL_law 645 = .ok (.iadd, 1) := by decide +kernel
theorem dL_law_646 : decode cL_law 646 = .ok (.iaload, 1) := by decide +kernel
theorem dL_law_647 : decode cL_law 647 = .ok (.invokevirtual 75, 3) := by decide +kernel
theorem dL_law_650 : decode cL_law 650 = .ok (.if_icmp .eq 1026, 3) := by decide +kernel
theorem Lw_shape {Inv Iny : xHp → xHp → Prop} {l : Launch} {X : xX} {b L : Nat} {xs : Nat → Int32} {n k t : Nat} {hx hm : xHp} {out : Nat → Int64} (hShp : ∀ hx hm, Inv hx hm → xShp hx hm) (hShq : ∀ hx hm, Iny hx hm → xShp hx hm) (hS : xSt Inv Iny l yX9_shape yX10_shape j9_shape j10_shape (fun as => as.length = 3)) (hW : xLw X b L xs) (hl : X.1.2.1 = l) (hI : Inv hx hm) (ht : 6 * t + 6 ≤ L) (hL : L ≤ 3072) (hn : n + 1101 ≤ 601024) (hk : k + 6606 ≤ 7293034) (kk : xLwK Iny l X b L xs n k t) : xV jL_law X n k (hLw hx hm out) 606 [(4, .int (Int32.ofNat (6 * t))), (0, .ref 2000), (1, .ref 0), (2, .ref 81), (3, .ref 101)] [] := by
  obtain ⟨hlx, hlm, ⟨fx, hx0⟩, ⟨fm, hm0⟩, hsx⟩ := hShp hx hm hI
  refine xV_aload_n 607 rfl dL_law_606 rfl 2 rfl ?_
  refine xV_aload_n 608 rfl dL_law_607 rfl 1 rfl ?_
  refine xV_iload 610 rfl dL_law_608 0 rfl ?_
  refine xV_iconst (v := 1) 611 rfl dL_law_610 (by decide) ?_
  refine xV_iadd 612 rfl dL_law_611 ?_
  refine xV_sld 613 rfl hW dL_law_612 (xArgI 1 (by decide) ht hL) (xArgJ 1 (by decide) ht hL) ?_
  refine xV_aload_n 614 rfl dL_law_613 rfl 1 rfl ?_
  refine xV_iload 616 rfl dL_law_614 0 rfl ?_
  refine xV_iconst (v := 2) 617 rfl dL_law_616 (by decide) ?_
  refine xV_iadd 618 rfl dL_law_617 ?_
  refine xV_sld 619 rfl hW dL_law_618 (xArgI 2 (by decide) ht hL) (xArgJ 2 (by decide) ht hL) ?_
  refine xV_aload_n 620 rfl dL_law_619 rfl 1 rfl ?_
  refine xV_iload 622 rfl dL_law_620 0 rfl ?_
  refine xV_iconst (v := 3) 623 rfl dL_law_622 (by decide) ?_
  refine xV_iadd 624 rfl dL_law_623 ?_
  refine xV_sld 625 rfl hW dL_law_624 (xArgI 3 (by decide) ht hL) (xArgJ 3 (by decide) ht hL) ?_
  obtain ⟨v, hx2, hm2, hc9, hc10, hI2⟩ := hS [(xs (6 * t + 1)), (xs (6 * t + 2)), (xs (6 * t + 3))] hx hm hI (by exact rfl)
  obtain ⟨hlx2, hlm2, ⟨fx2, hx02⟩, ⟨fm2, hm02⟩, hsx2⟩ := hShq hx2 hm2 hI2
  refine xV_pre (J := jL_law) (X := X) (pc := 625) (h := hx) (h' := hx2) (t := hm.map (xe (fun j => 81 + j)) ++ [.inl (1, 1, .inr (.inl out))]) (rest := []) (av2 := [.int (xs (6 * t + 1)), .int (xs (6 * t + 2)), .int (xs (6 * t + 3))]) 628 rfl dL_law_625 hl hc9 m9_shape v9_shape (List.mem_of_getElem? (i := 660) (by decide +kernel)) (hlx2.trans hlx.symm) rfl (xAt0 hx0) rfl rfl (Nat.le_of_ble_eq_true rfl) (Nat.le_of_ble_eq_true rfl) (Nat.le_of_ble_eq_true rfl) ⟨xz1 hn, xz1 hk⟩ ?_
  refine xV_eq (n' := n) (k' := k) (Nat.add_zero n) (Nat.add_zero k) ?_
  show xV jL_law X n k (hLw hx2 hm out) 628 [(4, .int (Int32.ofNat (6 * t))), (0, .ref 2000), (1, .ref 0), (2, .ref 81), (3, .ref 101)] [.int v]
  refine xV_aload_n 629 rfl dL_law_628 rfl 3 rfl ?_
  refine xV_aload_n 630 rfl dL_law_629 rfl 1 rfl ?_
  refine xV_iload 632 rfl dL_law_630 0 rfl ?_
  refine xV_iconst (v := 1) 633 rfl dL_law_632 (by decide) ?_
  refine xV_iadd 634 rfl dL_law_633 ?_
  refine xV_sld 635 rfl hW dL_law_634 (xArgI 1 (by decide) ht hL) (xArgJ 1 (by decide) ht hL) ?_
  refine xV_aload_n 636 rfl dL_law_635 rfl 1 rfl ?_
  refine xV_iload 638 rfl dL_law_636 0 rfl ?_
  refine xV_iconst (v := 2) 639 rfl dL_law_638 (by decide) ?_
  refine xV_iadd 640 rfl dL_law_639 ?_
  refine xV_sld 641 rfl hW dL_law_640 (xArgI 2 (by decide) ht hL) (xArgJ 2 (by decide) ht hL) ?_
  refine xV_aload_n 642 rfl dL_law_641 rfl 1 rfl ?_
  refine xV_iload 644 rfl dL_law_642 0 rfl ?_
  refine xV_iconst (v := 3) 645 rfl dL_law_644 (by decide) ?_
  refine xV_iadd 646 rfl dL_law_645 ?_
  refine xV_sld 647 rfl hW dL_law_646 (xArgI 3 (by decide) ht hL) (xArgJ 3 (by decide) ht hL) ?_
  refine xV_mid (hx := hx2) (hm := hm) (hm' := hm2) (t := [.inl (1, 1, .inr (.inl out))]) (rest := [.int v]) (av2 := [.int (xs (6 * t + 1)), .int (xs (6 * t + 2)), .int (xs (6 * t + 3))]) 81 hlx2 650 rfl dL_law_647 hl hc10 m10_shape v10_shape (List.mem_of_getElem? (i := 673) (by decide +kernel)) (hlm2.trans hlm.symm) rfl rfl rfl hm0 rfl rfl (Nat.le_of_ble_eq_true rfl) (Nat.le_of_ble_eq_true rfl) (Nat.le_of_ble_eq_true rfl) ⟨xz1 hn, xz1 hk⟩ ?_
  refine xV_eq (n' := n) (k' := k) (Nat.add_zero n) (Nat.add_zero k) ?_
  show xV jL_law X n k (hLw hx2 hm2 out) 650 [(4, .int (Int32.ofNat (6 * t))), (0, .ref 2000), (1, .ref 0), (2, .ref 81), (3, .ref 101)] [.int v, .int v]
  refine xV_icmp_eq (tgt := 1676) 653 rfl dL_law_650 (by decide) (fun _ => ?_) (fun hq => absurd rfl hq)
  exact kk X n k hx2 hm2 out hW hl (by omega) (by omega) hI2
theorem dL_law_655 : decode cL_law 655 = .ok (.aload_n 1, 1) := by decide +kernel
theorem dL_law_656 : decode cL_law 656 = .ok (.aload_n 0, 1) := by decide +kernel
theorem dL_law_657 : decode cL_law 657 = .ok (.iload 4, 2) := by decide +kernel
theorem dL_law_659 : decode cL_law 659 = .ok (.iconst 1, 1) := by decide +kernel
theorem dL_law_660 : decode cL_law 660 = .ok (.iadd, 1) := by decide +kernel
theorem dL_law_661 : decode cL_law 661 = .ok (.iaload, 1) := by decide +kernel
theorem dL_law_662 : decode cL_law 662 = .ok (.aload_n 0, 1) := by decide +kernel
theorem dL_law_663 : decode cL_law 663 = .ok (.iload 4, 2) := by decide +kernel
theorem dL_law_665 : decode cL_law 665 = .ok (.iconst 2, 1) := by decide +kernel
theorem dL_law_666 : decode cL_law 666 = .ok (.iadd, 1) := by decide +kernel
theorem dL_law_667 : decode cL_law 667 = .ok (.iaload, 1) := by decide +kernel
theorem dL_law_668 : decode cL_law 668 = .ok (.aload_n 0, 1) := by decide +kernel
theorem dL_law_669 : decode cL_law 669 = .ok (.iload 4, 2) := by decide +kernel
theorem dL_law_671 : decode cL_law 671 = .ok (.iconst 3, 1) := by decide +kernel
theorem dL_law_672 : decode cL_law 672 = .ok (.iadd, 1) := by decide +kernel
theorem dL_law_673 : decode cL_law 673 = .ok (.iaload, 1) := by decide +kernel
theorem dL_law_674 : decode cL_law 674 = .ok (.invokevirtual 76, 3) := by decide +kernel
theorem dL_law_677 : decode cL_law 677 = .ok (.aload_n 2, 1) := by decide +kernel
theorem dL_law_678 : decode cL_law 678 = .ok (.aload_n 0, 1) := by decide +kernel
theorem dL_law_679 : decode cL_law 679 = .ok (.iload 4, 2) := by decide +kernel
theorem dL_law_681 : decode cL_law 681 = .ok (.iconst 1, 1) := by decide +kernel
theorem dL_law_682 : decode cL_law 682 = .ok (.iadd, 1) := by decide +kernel
theorem dL_law_683 : decode cL_law 683 = .ok (.iaload, 1) := by decide +kernel
theorem dL_law_684 : decode cL_law 684 = .ok (.aload_n 0, 1) := by decide +kernel
theorem dL_law_685 : decode cL_law 685 = .ok (.iload 4, 2) := by decide +kernel
theorem dL_law_687 : decode cL_law 687 = .ok (.iconst 2, 1) := by decide +kernel
theorem dL_law_688 : decode cL_law 688 = .ok (.iadd, 1) := by decide +kernel
theorem dL_law_689 : decode cL_law 689 = .ok (.iaload, 1) := by decide +kernel
theorem dL_law_690 : decode cL_law 690 = .ok (.aload_n 0, 1) := by decide +kernel
theorem dL_law_691 : decode cL_law 691 = .ok (.iload 4, 2) := by decide +kernel
theorem dL_law_693 : decode cL_law 693 = .ok (.iconst 3, 1) := by decide +kernel
theorem dL_law_694 : decode cL_law 694 = .ok (.iadd, 1) := by decide +kernel
theorem dL_law_695 : decode cL_law 695 = .ok (.iaload, 1) := by decide +kernel
theorem dL_law_696 : decode cL_law 696 = .ok (.invokevirtual 80, 3) := by decide +kernel
theorem dL_law_699 : decode cL_law 699 = .ok (.lcmp, 1) := by decide +kernel
theorem dL_law_700 : decode cL_law 700 = .ok (.ifCond .eq 976, 3) := by decide +kernel
theorem Lw_ways {Inv Iny : xHp → xHp → Prop} {l : Launch} {X : xX} {b L : Nat} {xs : Nat → Int32} {n k t : Nat} {hx hm : xHp} {out : Nat → Int64} (hShp : ∀ hx hm, Inv hx hm → xShp hx hm) (hShq : ∀ hx hm, Iny hx hm → xShp hx hm) (hS : xStL Inv Iny l yX9_ways yX10_ways j9_ways j10_ways (fun as => as.length = 3)) (hW : xLw X b L xs) (hl : X.1.2.1 = l) (hI : Inv hx hm) (ht : 6 * t + 6 ≤ L) (hL : L ≤ 3072) (hn : n + 1101 ≤ 601024) (hk : k + 6606 ≤ 7293034) (kk : xLwK Iny l X b L xs n k t) : xV jL_law X n k (hLw hx hm out) 655 [(4, .int (Int32.ofNat (6 * t))), (0, .ref 2000), (1, .ref 0), (2, .ref 81), (3, .ref 101)] [] := by
  obtain ⟨hlx, hlm, ⟨fx, hx0⟩, ⟨fm, hm0⟩, hsx⟩ := hShp hx hm hI
  refine xV_aload_n 656 rfl dL_law_655 rfl 2 rfl ?_
  refine xV_aload_n 657 rfl dL_law_656 rfl 1 rfl ?_
  refine xV_iload 659 rfl dL_law_657 0 rfl ?_
  refine xV_iconst (v := 1) 660 rfl dL_law_659 (by decide) ?_
  refine xV_iadd 661 rfl dL_law_660 ?_
  refine xV_sld 662 rfl hW dL_law_661 (xArgI 1 (by decide) ht hL) (xArgJ 1 (by decide) ht hL) ?_
  refine xV_aload_n 663 rfl dL_law_662 rfl 1 rfl ?_
  refine xV_iload 665 rfl dL_law_663 0 rfl ?_
  refine xV_iconst (v := 2) 666 rfl dL_law_665 (by decide) ?_
  refine xV_iadd 667 rfl dL_law_666 ?_
  refine xV_sld 668 rfl hW dL_law_667 (xArgI 2 (by decide) ht hL) (xArgJ 2 (by decide) ht hL) ?_
  refine xV_aload_n 669 rfl dL_law_668 rfl 1 rfl ?_
  refine xV_iload 671 rfl dL_law_669 0 rfl ?_
  refine xV_iconst (v := 3) 672 rfl dL_law_671 (by decide) ?_
  refine xV_iadd 673 rfl dL_law_672 ?_
  refine xV_sld 674 rfl hW dL_law_673 (xArgI 3 (by decide) ht hL) (xArgJ 3 (by decide) ht hL) ?_
  obtain ⟨v, hx2, hm2, hc9, hc10, hI2⟩ := hS [(xs (6 * t + 1)), (xs (6 * t + 2)), (xs (6 * t + 3))] hx hm hI (by exact rfl)
  obtain ⟨hlx2, hlm2, ⟨fx2, hx02⟩, ⟨fm2, hm02⟩, hsx2⟩ := hShq hx2 hm2 hI2
  refine xV_pre (J := jL_law) (X := X) (pc := 674) (h := hx) (h' := hx2) (t := hm.map (xe (fun j => 81 + j)) ++ [.inl (1, 1, .inr (.inl out))]) (rest := []) (av2 := [.int (xs (6 * t + 1)), .int (xs (6 * t + 2)), .int (xs (6 * t + 3))]) 677 rfl dL_law_674 hl hc9 m9_ways v9_ways (List.mem_of_getElem? (i := 681) (by decide +kernel)) (hlx2.trans hlx.symm) rfl (xAt0 hx0) rfl rfl (Nat.le_of_ble_eq_true rfl) (Nat.le_of_ble_eq_true rfl) (Nat.le_of_ble_eq_true rfl) ⟨xz1 hn, xz1 hk⟩ ?_
  refine xV_eq (n' := n) (k' := k) (Nat.add_zero n) (Nat.add_zero k) ?_
  show xV jL_law X n k (hLw hx2 hm out) 677 [(4, .int (Int32.ofNat (6 * t))), (0, .ref 2000), (1, .ref 0), (2, .ref 81), (3, .ref 101)] [.long v]
  refine xV_aload_n 678 rfl dL_law_677 rfl 3 rfl ?_
  refine xV_aload_n 679 rfl dL_law_678 rfl 1 rfl ?_
  refine xV_iload 681 rfl dL_law_679 0 rfl ?_
  refine xV_iconst (v := 1) 682 rfl dL_law_681 (by decide) ?_
  refine xV_iadd 683 rfl dL_law_682 ?_
  refine xV_sld 684 rfl hW dL_law_683 (xArgI 1 (by decide) ht hL) (xArgJ 1 (by decide) ht hL) ?_
  refine xV_aload_n 685 rfl dL_law_684 rfl 1 rfl ?_
  refine xV_iload 687 rfl dL_law_685 0 rfl ?_
  refine xV_iconst (v := 2) 688 rfl dL_law_687 (by decide) ?_
  refine xV_iadd 689 rfl dL_law_688 ?_
  refine xV_sld 690 rfl hW dL_law_689 (xArgI 2 (by decide) ht hL) (xArgJ 2 (by decide) ht hL) ?_
  refine xV_aload_n 691 rfl dL_law_690 rfl 1 rfl ?_
  refine xV_iload 693 rfl dL_law_691 0 rfl ?_
  refine xV_iconst (v := 3) 694 rfl dL_law_693 (by decide) ?_
  refine xV_iadd 695 rfl dL_law_694 ?_
  refine xV_sld 696 rfl hW dL_law_695 (xArgI 3 (by decide) ht hL) (xArgJ 3 (by decide) ht hL) ?_
  refine xV_mid (hx := hx2) (hm := hm) (hm' := hm2) (t := [.inl (1, 1, .inr (.inl out))]) (rest := [.long v]) (av2 := [.int (xs (6 * t + 1)), .int (xs (6 * t + 2)), .int (xs (6 * t + 3))]) 81 hlx2 699 rfl dL_law_696 hl hc10 m10_ways v10_ways (List.mem_of_getElem? (i := 686) (by decide +kernel)) (hlm2.trans hlm.symm) rfl rfl rfl hm0 rfl rfl (Nat.le_of_ble_eq_true rfl) (Nat.le_of_ble_eq_true rfl) (Nat.le_of_ble_eq_true rfl) ⟨xz1 hn, xz1 hk⟩ ?_
  refine xV_eq (n' := n) (k' := k) (Nat.add_zero n) (Nat.add_zero k) ?_
  show xV jL_law X n k (hLw hx2 hm2 out) 699 [(4, .int (Int32.ofNat (6 * t))), (0, .ref 2000), (1, .ref 0), (2, .ref 81), (3, .ref 101)] [.long v, .long v]
  refine xV_lcmp 700 rfl dL_law_699 ?_
  rw [xLcmp]
  refine xV_if_eq (tgt := 1676) 703 rfl dL_law_700 (by decide) (fun _ => ?_) (fun hq => absurd rfl hq)
  exact kk X n k hx2 hm2 out hW hl (by omega) (by omega) hI2
theorem dL_law_705 : decode cL_law 705 = .ok (.aload_n 1, 1) := by decide +kernel
theorem dL_law_706 : decode cL_law 706 = .ok (.aload_n 0, 1) := by decide +kernel
theorem dL_law_707 : decode cL_law 707 = .ok (.iload 4, 2) := by decide +kernel
theorem dL_law_709 : decode cL_law 709 = .ok (.iconst 1, 1) := by decide +kernel
theorem dL_law_710 : decode cL_law 710 = .ok (.iadd, 1) := by decide +kernel
theorem dL_law_711 : decode cL_law 711 = .ok (.iaload, 1) := by decide +kernel
theorem dL_law_712 : decode cL_law 712 = .ok (.aload_n 0, 1) := by decide +kernel
theorem dL_law_713 : decode cL_law 713 = .ok (.iload 4, 2) := by decide +kernel
theorem dL_law_715 : decode cL_law 715 = .ok (.iconst 2, 1) := by decide +kernel
theorem dL_law_716 : decode cL_law 716 = .ok (.iadd, 1) := by decide +kernel
theorem dL_law_717 : decode cL_law 717 = .ok (.iaload, 1) := by decide +kernel
theorem dL_law_718 : decode cL_law 718 = .ok (.aload_n 0, 1) := by decide +kernel
theorem dL_law_719 : decode cL_law 719 = .ok (.iload 4, 2) := by decide +kernel
theorem dL_law_721 : decode cL_law 721 = .ok (.iconst 3, 1) := by decide +kernel
theorem dL_law_722 : decode cL_law 722 = .ok (.iadd, 1) := by decide +kernel
theorem dL_law_723 : decode cL_law 723 = .ok (.iaload, 1) := by decide +kernel
theorem dL_law_724 : decode cL_law 724 = .ok (.ifCond .eq 7, 3) := by decide +kernel
theorem dL_law_727 : decode cL_law 727 = .ok (.iconst 1, 1) := by decide +kernel
theorem dL_law_728 : decode cL_law 728 = .ok (.goto 4, 3) := by decide +kernel
theorem dL_law_731 : decode cL_law 731 = .ok (.iconst 0, 1) := by decide +kernel
theorem dL_law_732 : decode cL_law 732 = .ok (.invokevirtual 81, 3) := by decide +kernel
theorem dL_law_735 : decode cL_law 735 = .ok (.aload_n 2, 1) := by decide +kernel
theorem dL_law_736 : decode cL_law 736 = .ok (.aload_n 0, 1) := by decide +kernel
theorem dL_law_737 : decode cL_law 737 = .ok (.iload 4, 2) := by decide +kernel
theorem dL_law_739 : decode cL_law 739 = .ok (.iconst 1, 1) := by decide +kernel
theorem dL_law_740 : decode cL_law 740 = .ok (.iadd, 1) := by decide +kernel
theorem dL_law_741 : decode cL_law 741 = .ok (.iaload, 1) := by decide +kernel
theorem dL_law_742 : decode cL_law 742 = .ok (.aload_n 0, 1) := by decide +kernel
theorem dL_law_743 : decode cL_law 743 = .ok (.iload 4, 2) := by decide +kernel
theorem dL_law_745 : decode cL_law 745 = .ok (.iconst 2, 1) := by decide +kernel
theorem dL_law_746 : decode cL_law 746 = .ok (.iadd, 1) := by decide +kernel
theorem dL_law_747 : decode cL_law 747 = .ok (.iaload, 1) := by decide +kernel
theorem dL_law_748 : decode cL_law 748 = .ok (.aload_n 0, 1) := by decide +kernel
theorem dL_law_749 : decode cL_law 749 = .ok (.iload 4, 2) := by decide +kernel
theorem dL_law_751 : decode cL_law 751 = .ok (.iconst 3, 1) := by decide +kernel
theorem dL_law_752 : decode cL_law 752 = .ok (.iadd, 1) := by decide +kernel
theorem dL_law_753 : decode cL_law 753 = .ok (.iaload, 1) := by decide +kernel
theorem dL_law_754 : decode cL_law 754 = .ok (.ifCond .eq 7, 3) := by decide +kernel
theorem dL_law_757 : decode cL_law 757 = .ok (.iconst 1, 1) := by decide +kernel
theorem dL_law_758 : decode cL_law 758 = .ok (.goto 4, 3) := by decide +kernel
theorem dL_law_761 : decode cL_law 761 = .ok (.iconst 0, 1) := by decide +kernel
theorem dL_law_762 : decode cL_law 762 = .ok (.invokevirtual 85, 3) := by decide +kernel
theorem dL_law_765 : decode cL_law 765 = .ok (.if_icmp .eq 911, 3) := by decide +kernel
theorem Lw_worse {Inv Iny : xHp → xHp → Prop} {l : Launch} {X : xX} {b L : Nat} {xs : Nat → Int32} {n k t : Nat} {hx hm : xHp} {out : Nat → Int64} (hShp : ∀ hx hm, Inv hx hm → xShp hx hm) (hShq : ∀ hx hm, Iny hx hm → xShp hx hm) (hS : xSt Inv Iny l yX9_worse yX10_worse j9_worse j10_worse (fun as => as.length = 3 ∧ (as.getD 2 0 = 0 ∨ as.getD 2 0 = 1))) (hW : xLw X b L xs) (hl : X.1.2.1 = l) (hI : Inv hx hm) (ht : 6 * t + 6 ≤ L) (hL : L ≤ 3072) (hn : n + 1101 ≤ 601024) (hk : k + 6606 ≤ 7293034) (kk : xLwK Iny l X b L xs n k t) : xV jL_law X n k (hLw hx hm out) 705 [(4, .int (Int32.ofNat (6 * t))), (0, .ref 2000), (1, .ref 0), (2, .ref 81), (3, .ref 101)] [] := by
  obtain ⟨hlx, hlm, ⟨fx, hx0⟩, ⟨fm, hm0⟩, hsx⟩ := hShp hx hm hI
  refine xV_aload_n 706 rfl dL_law_705 rfl 2 rfl ?_
  refine xV_aload_n 707 rfl dL_law_706 rfl 1 rfl ?_
  refine xV_iload 709 rfl dL_law_707 0 rfl ?_
  refine xV_iconst (v := 1) 710 rfl dL_law_709 (by decide) ?_
  refine xV_iadd 711 rfl dL_law_710 ?_
  refine xV_sld 712 rfl hW dL_law_711 (xArgI 1 (by decide) ht hL) (xArgJ 1 (by decide) ht hL) ?_
  refine xV_aload_n 713 rfl dL_law_712 rfl 1 rfl ?_
  refine xV_iload 715 rfl dL_law_713 0 rfl ?_
  refine xV_iconst (v := 2) 716 rfl dL_law_715 (by decide) ?_
  refine xV_iadd 717 rfl dL_law_716 ?_
  refine xV_sld 718 rfl hW dL_law_717 (xArgI 2 (by decide) ht hL) (xArgJ 2 (by decide) ht hL) ?_
  refine xV_aload_n 719 rfl dL_law_718 rfl 1 rfl ?_
  refine xV_iload 721 rfl dL_law_719 0 rfl ?_
  refine xV_iconst (v := 3) 722 rfl dL_law_721 (by decide) ?_
  refine xV_iadd 723 rfl dL_law_722 ?_
  refine xV_sld 724 rfl hW dL_law_723 (xArgI 3 (by decide) ht hL) (xArgJ 3 (by decide) ht hL) ?_
  refine xV_bool (X0 := 731) (Y0 := 732) 724 rfl dL_law_724 dL_law_727 dL_law_728 dL_law_731 (by decide) (by decide) rfl ?_
  obtain ⟨v, hx2, hm2, hc9, hc10, hI2⟩ := hS [(xs (6 * t + 1)), (xs (6 * t + 2)), (if xs (6 * t + 3) = 0 then 0 else 1)] hx hm hI (by exact ⟨rfl, xb01 _⟩)
  obtain ⟨hlx2, hlm2, ⟨fx2, hx02⟩, ⟨fm2, hm02⟩, hsx2⟩ := hShq hx2 hm2 hI2
  refine xV_pre (J := jL_law) (X := X) (pc := 732) (h := hx) (h' := hx2) (t := hm.map (xe (fun j => 81 + j)) ++ [.inl (1, 1, .inr (.inl out))]) (rest := []) (av2 := [.int (xs (6 * t + 1)), .int (xs (6 * t + 2)), .int (if xs (6 * t + 3) = 0 then 0 else 1)]) 735 rfl dL_law_732 hl hc9 m9_worse v9_worse (List.mem_of_getElem? (i := 691) (by decide +kernel)) (hlx2.trans hlx.symm) rfl (xAt0 hx0) rfl rfl (Nat.le_of_ble_eq_true rfl) (Nat.le_of_ble_eq_true rfl) (Nat.le_of_ble_eq_true rfl) ⟨xz1 hn, xz1 hk⟩ ?_
  refine xV_eq (n' := n) (k' := k) (Nat.add_zero n) (Nat.add_zero k) ?_
  show xV jL_law X n k (hLw hx2 hm out) 735 [(4, .int (Int32.ofNat (6 * t))), (0, .ref 2000), (1, .ref 0), (2, .ref 81), (3, .ref 101)] [.int v]
  refine xV_aload_n 736 rfl dL_law_735 rfl 3 rfl ?_
  refine xV_aload_n 737 rfl dL_law_736 rfl 1 rfl ?_
  refine xV_iload 739 rfl dL_law_737 0 rfl ?_
  refine xV_iconst (v := 1) 740 rfl dL_law_739 (by decide) ?_
  refine xV_iadd 741 rfl dL_law_740 ?_
  refine xV_sld 742 rfl hW dL_law_741 (xArgI 1 (by decide) ht hL) (xArgJ 1 (by decide) ht hL) ?_
  refine xV_aload_n 743 rfl dL_law_742 rfl 1 rfl ?_
  refine xV_iload 745 rfl dL_law_743 0 rfl ?_
  refine xV_iconst (v := 2) 746 rfl dL_law_745 (by decide) ?_
  refine xV_iadd 747 rfl dL_law_746 ?_
  refine xV_sld 748 rfl hW dL_law_747 (xArgI 2 (by decide) ht hL) (xArgJ 2 (by decide) ht hL) ?_
  refine xV_aload_n 749 rfl dL_law_748 rfl 1 rfl ?_
  refine xV_iload 751 rfl dL_law_749 0 rfl ?_
  refine xV_iconst (v := 3) 752 rfl dL_law_751 (by decide) ?_
  refine xV_iadd 753 rfl dL_law_752 ?_
  refine xV_sld 754 rfl hW dL_law_753 (xArgI 3 (by decide) ht hL) (xArgJ 3 (by decide) ht hL) ?_
  refine xV_bool (X0 := 761) (Y0 := 762) 754 rfl dL_law_754 dL_law_757 dL_law_758 dL_law_761 (by decide) (by decide) rfl ?_
  refine xV_mid (hx := hx2) (hm := hm) (hm' := hm2) (t := [.inl (1, 1, .inr (.inl out))]) (rest := [.int v]) (av2 := [.int (xs (6 * t + 1)), .int (xs (6 * t + 2)), .int (if xs (6 * t + 3) = 0 then 0 else 1)]) 81 hlx2 765 rfl dL_law_762 hl hc10 m10_worse v10_worse (List.mem_of_getElem? (i := 704) (by decide +kernel)) (hlm2.trans hlm.symm) rfl rfl rfl hm0 rfl rfl (Nat.le_of_ble_eq_true rfl) (Nat.le_of_ble_eq_true rfl) (Nat.le_of_ble_eq_true rfl) ⟨xz1 hn, xz1 hk⟩ ?_
  refine xV_eq (n' := n) (k' := k) (Nat.add_zero n) (Nat.add_zero k) ?_
  show xV jL_law X n k (hLw hx2 hm2 out) 765 [(4, .int (Int32.ofNat (6 * t))), (0, .ref 2000), (1, .ref 0), (2, .ref 81), (3, .ref 101)] [.int v, .int v]
  refine xV_icmp_eq (tgt := 1676) 768 rfl dL_law_765 (by decide) (fun _ => ?_) (fun hq => absurd rfl hq)
  exact kk X n k hx2 hm2 out hW hl (by omega) (by omega) hI2
theorem dL_law_770 : decode cL_law 770 = .ok (.aload_n 1, 1) := by decide +kernel
theorem dL_law_771 : decode cL_law 771 = .ok (.aload_n 0, 1) := by decide +kernel
theorem dL_law_772 : decode cL_law 772 = .ok (.iload 4, 2) := by decide +kernel
theorem dL_law_774 : decode cL_law 774 = .ok (.iconst 1, 1) := by decide +kernel
theorem dL_law_775 : decode cL_law 775 = .ok (.iadd, 1) := by decide +kernel
theorem dL_law_776 : decode cL_law 776 = .ok (.iaload, 1) := by decide +kernel
theorem dL_law_777 : decode cL_law 777 = .ok (.aload_n 0, 1) := by decide +kernel
theorem dL_law_778 : decode cL_law 778 = .ok (.iload 4, 2) := by decide +kernel
theorem dL_law_780 : decode cL_law 780 = .ok (.iconst 2, 1) := by decide +kernel
theorem dL_law_781 : decode cL_law 781 = .ok (.iadd, 1) := by decide +kernel
theorem dL_law_782 : decode cL_law 782 = .ok (.iaload, 1) := by decide +kernel
theorem dL_law_783 : decode cL_law 783 = .ok (.invokevirtual 86, 3) := by decide +kernel
theorem dL_law_786 : decode cL_law 786 = .ok (.aload_n 2, 1) := by decide +kernel
theorem dL_law_787 : decode cL_law 787 = .ok (.aload_n 0, 1) := by decide +kernel
theorem dL_law_788 : decode cL_law 788 = .ok (.iload 4, 2) := by decide +kernel
theorem dL_law_790 : decode cL_law 790 = .ok (.iconst 1, 1) := by decide +kernel
theorem dL_law_791 : decode cL_law 791 = .ok (.iadd, 1) := by decide +kernel
theorem dL_law_792 : decode cL_law 792 = .ok (.iaload, 1) := by decide +kernel
theorem dL_law_793 : decode cL_law 793 = .ok (.aload_n 0, 1) := by decide +kernel
theorem dL_law_794 : decode cL_law 794 = .ok (.iload 4, 2) := by decide +kernel
theorem dL_law_796 : decode cL_law 796 = .ok (.iconst 2, 1) := by decide +kernel
theorem dL_law_797 : decode cL_law 797 = .ok (.iadd, 1) := by decide +kernel
theorem dL_law_798 : decode cL_law 798 = .ok (.iaload, 1) := by decide +kernel
theorem dL_law_799 : decode cL_law 799 = .ok (.invokevirtual 89, 3) := by decide +kernel
theorem dL_law_802 : decode cL_law 802 = .ok (.if_icmp .eq 874, 3) := by decide +kernel
theorem Lw_left {Inv Iny : xHp → xHp → Prop} {l : Launch} {X : xX} {b L : Nat} {xs : Nat → Int32} {n k t : Nat} {hx hm : xHp} {out : Nat → Int64} (hShp : ∀ hx hm, Inv hx hm → xShp hx hm) (hShq : ∀ hx hm, Iny hx hm → xShp hx hm) (hS : xSt Inv Iny l yX9_left yX10_left j9_left j10_left (fun as => as.length = 2)) (hW : xLw X b L xs) (hl : X.1.2.1 = l) (hI : Inv hx hm) (ht : 6 * t + 6 ≤ L) (hL : L ≤ 3072) (hn : n + 1101 ≤ 601024) (hk : k + 6606 ≤ 7293034) (kk : xLwK Iny l X b L xs n k t) : xV jL_law X n k (hLw hx hm out) 770 [(4, .int (Int32.ofNat (6 * t))), (0, .ref 2000), (1, .ref 0), (2, .ref 81), (3, .ref 101)] [] := by
  obtain ⟨hlx, hlm, ⟨fx, hx0⟩, ⟨fm, hm0⟩, hsx⟩ := hShp hx hm hI
  refine xV_aload_n 771 rfl dL_law_770 rfl 2 rfl ?_
  refine xV_aload_n 772 rfl dL_law_771 rfl 1 rfl ?_
  refine xV_iload 774 rfl dL_law_772 0 rfl ?_
  refine xV_iconst (v := 1) 775 rfl dL_law_774 (by decide) ?_
  refine xV_iadd 776 rfl dL_law_775 ?_
  refine xV_sld 777 rfl hW dL_law_776 (xArgI 1 (by decide) ht hL) (xArgJ 1 (by decide) ht hL) ?_
  refine xV_aload_n 778 rfl dL_law_777 rfl 1 rfl ?_
  refine xV_iload 780 rfl dL_law_778 0 rfl ?_
  refine xV_iconst (v := 2) 781 rfl dL_law_780 (by decide) ?_
  refine xV_iadd 782 rfl dL_law_781 ?_
  refine xV_sld 783 rfl hW dL_law_782 (xArgI 2 (by decide) ht hL) (xArgJ 2 (by decide) ht hL) ?_
  obtain ⟨v, hx2, hm2, hc9, hc10, hI2⟩ := hS [(xs (6 * t + 1)), (xs (6 * t + 2))] hx hm hI (by exact rfl)
  obtain ⟨hlx2, hlm2, ⟨fx2, hx02⟩, ⟨fm2, hm02⟩, hsx2⟩ := hShq hx2 hm2 hI2
  refine xV_pre (J := jL_law) (X := X) (pc := 783) (h := hx) (h' := hx2) (t := hm.map (xe (fun j => 81 + j)) ++ [.inl (1, 1, .inr (.inl out))]) (rest := []) (av2 := [.int (xs (6 * t + 1)), .int (xs (6 * t + 2))]) 786 rfl dL_law_783 hl hc9 m9_left v9_left (List.mem_of_getElem? (i := 716) (by decide +kernel)) (hlx2.trans hlx.symm) rfl (xAt0 hx0) rfl rfl (Nat.le_of_ble_eq_true rfl) (Nat.le_of_ble_eq_true rfl) (Nat.le_of_ble_eq_true rfl) ⟨xz1 hn, xz1 hk⟩ ?_
  refine xV_eq (n' := n) (k' := k) (Nat.add_zero n) (Nat.add_zero k) ?_
  show xV jL_law X n k (hLw hx2 hm out) 786 [(4, .int (Int32.ofNat (6 * t))), (0, .ref 2000), (1, .ref 0), (2, .ref 81), (3, .ref 101)] [.int v]
  refine xV_aload_n 787 rfl dL_law_786 rfl 3 rfl ?_
  refine xV_aload_n 788 rfl dL_law_787 rfl 1 rfl ?_
  refine xV_iload 790 rfl dL_law_788 0 rfl ?_
  refine xV_iconst (v := 1) 791 rfl dL_law_790 (by decide) ?_
  refine xV_iadd 792 rfl dL_law_791 ?_
  refine xV_sld 793 rfl hW dL_law_792 (xArgI 1 (by decide) ht hL) (xArgJ 1 (by decide) ht hL) ?_
  refine xV_aload_n 794 rfl dL_law_793 rfl 1 rfl ?_
  refine xV_iload 796 rfl dL_law_794 0 rfl ?_
  refine xV_iconst (v := 2) 797 rfl dL_law_796 (by decide) ?_
  refine xV_iadd 798 rfl dL_law_797 ?_
  refine xV_sld 799 rfl hW dL_law_798 (xArgI 2 (by decide) ht hL) (xArgJ 2 (by decide) ht hL) ?_
  refine xV_mid (hx := hx2) (hm := hm) (hm' := hm2) (t := [.inl (1, 1, .inr (.inl out))]) (rest := [.int v]) (av2 := [.int (xs (6 * t + 1)), .int (xs (6 * t + 2))]) 81 hlx2 802 rfl dL_law_799 hl hc10 m10_left v10_left (List.mem_of_getElem? (i := 750) (by decide +kernel)) (hlm2.trans hlm.symm) rfl rfl rfl hm0 rfl rfl (Nat.le_of_ble_eq_true rfl) (Nat.le_of_ble_eq_true rfl) (Nat.le_of_ble_eq_true rfl) ⟨xz1 hn, xz1 hk⟩ ?_
  refine xV_eq (n' := n) (k' := k) (Nat.add_zero n) (Nat.add_zero k) ?_
  show xV jL_law X n k (hLw hx2 hm2 out) 802 [(4, .int (Int32.ofNat (6 * t))), (0, .ref 2000), (1, .ref 0), (2, .ref 81), (3, .ref 101)] [.int v, .int v]
  refine xV_icmp_eq (tgt := 1676) 805 rfl dL_law_802 (by decide) (fun _ => ?_) (fun hq => absurd rfl hq)
  exact kk X n k hx2 hm2 out hW hl (by omega) (by omega) hI2
theorem dL_law_807 : decode cL_law 807 = .ok (.aload_n 1, 1) := by decide +kernel
theorem dL_law_808 : decode cL_law 808 = .ok (.invokevirtual 90, 3) := by decide +kernel
theorem dL_law_811 : decode cL_law 811 = .ok (.aload_n 2, 1) := by decide +kernel
theorem dL_law_812 : decode cL_law 812 = .ok (.invokevirtual 93, 3) := by decide +kernel
theorem dL_law_815 : decode cL_law 815 = .ok (.if_icmp .eq 861, 3) := by decide +kernel
theorem Lw_rounds {Inv Iny : xHp → xHp → Prop} {l : Launch} {X : xX} {b L : Nat} {xs : Nat → Int32} {n k t : Nat} {hx hm : xHp} {out : Nat → Int64} (hShp : ∀ hx hm, Inv hx hm → xShp hx hm) (hShq : ∀ hx hm, Iny hx hm → xShp hx hm) (hS : xSt Inv Iny l yX9_rounds yX10_rounds j9_rounds j10_rounds (fun as => as.length = 0)) (hW : xLw X b L xs) (hl : X.1.2.1 = l) (hI : Inv hx hm) (ht : 6 * t + 6 ≤ L) (hL : L ≤ 3072) (hn : n + 1101 ≤ 601024) (hk : k + 6606 ≤ 7293034) (kk : xLwK Iny l X b L xs n k t) : xV jL_law X n k (hLw hx hm out) 807 [(4, .int (Int32.ofNat (6 * t))), (0, .ref 2000), (1, .ref 0), (2, .ref 81), (3, .ref 101)] [] := by
  obtain ⟨hlx, hlm, ⟨fx, hx0⟩, ⟨fm, hm0⟩, hsx⟩ := hShp hx hm hI
  refine xV_aload_n 808 rfl dL_law_807 rfl 2 rfl ?_
  obtain ⟨v, hx2, hm2, hc9, hc10, hI2⟩ := hS [] hx hm hI (by exact rfl)
  obtain ⟨hlx2, hlm2, ⟨fx2, hx02⟩, ⟨fm2, hm02⟩, hsx2⟩ := hShq hx2 hm2 hI2
  refine xV_pre (J := jL_law) (X := X) (pc := 808) (h := hx) (h' := hx2) (t := hm.map (xe (fun j => 81 + j)) ++ [.inl (1, 1, .inr (.inl out))]) (rest := []) (av2 := []) 811 rfl dL_law_808 hl hc9 m9_rounds v9_rounds (List.mem_of_getElem? (i := 763) (by decide +kernel)) (hlx2.trans hlx.symm) rfl (xAt0 hx0) rfl rfl (Nat.le_of_ble_eq_true rfl) (Nat.le_of_ble_eq_true rfl) (Nat.le_of_ble_eq_true rfl) ⟨xz1 hn, xz1 hk⟩ ?_
  refine xV_eq (n' := n) (k' := k) (Nat.add_zero n) (Nat.add_zero k) ?_
  show xV jL_law X n k (hLw hx2 hm out) 811 [(4, .int (Int32.ofNat (6 * t))), (0, .ref 2000), (1, .ref 0), (2, .ref 81), (3, .ref 101)] [.int v]
  refine xV_aload_n 812 rfl dL_law_811 rfl 3 rfl ?_
  refine xV_mid (hx := hx2) (hm := hm) (hm' := hm2) (t := [.inl (1, 1, .inr (.inl out))]) (rest := [.int v]) (av2 := []) 81 hlx2 815 rfl dL_law_812 hl hc10 m10_rounds v10_rounds (List.mem_of_getElem? (i := 768) (by decide +kernel)) (hlm2.trans hlm.symm) rfl rfl rfl hm0 rfl rfl (Nat.le_of_ble_eq_true rfl) (Nat.le_of_ble_eq_true rfl) (Nat.le_of_ble_eq_true rfl) ⟨xz1 hn, xz1 hk⟩ ?_
  refine xV_eq (n' := n) (k' := k) (Nat.add_zero n) (Nat.add_zero k) ?_
  show xV jL_law X n k (hLw hx2 hm2 out) 815 [(4, .int (Int32.ofNat (6 * t))), (0, .ref 2000), (1, .ref 0), (2, .ref 81), (3, .ref 101)] [.int v, .int v]
  refine xV_icmp_eq (tgt := 1676) 818 rfl dL_law_815 (by decide) (fun _ => ?_) (fun hq => absurd rfl hq)
  exact kk X n k hx2 hm2 out hW hl (by omega) (by omega) hI2
theorem dL_law_820 : decode cL_law 820 = .ok (.aload_n 1, 1) := by decide +kernel
theorem dL_law_821 : decode cL_law 821 = .ok (.aload_n 0, 1) := by decide +kernel
theorem dL_law_822 : decode cL_law 822 = .ok (.iload 4, 2) := by decide +kernel
theorem dL_law_824 : decode cL_law 824 = .ok (.iconst 1, 1) := by decide +kernel
theorem dL_law_825 : decode cL_law 825 = .ok (.iadd, 1) := by decide +kernel
theorem dL_law_826 : decode cL_law 826 = .ok (.iaload, 1) := by decide +kernel
theorem dL_law_827 : decode cL_law 827 = .ok (.aload_n 0, 1) := by decide +kernel
theorem dL_law_828 : decode cL_law 828 = .ok (.iload 4, 2) := by decide +kernel
theorem dL_law_830 : decode cL_law 830 = .ok (.iconst 2, 1) := by decide +kernel
theorem dL_law_831 : decode cL_law 831 = .ok (.iadd, 1) := by decide +kernel
theorem dL_law_832 : decode cL_law 832 = .ok (.iaload, 1) := by decide +kernel
theorem dL_law_833 : decode cL_law 833 = .ok (.invokevirtual 94, 3) := by decide +kernel
theorem dL_law_836 : decode cL_law 836 = .ok (.aload_n 2, 1) := by decide +kernel
theorem dL_law_837 : decode cL_law 837 = .ok (.aload_n 0, 1) := by decide +kernel
theorem dL_law_838 : decode cL_law 838 = .ok (.iload 4, 2) := by decide +kernel
theorem dL_law_840 : decode cL_law 840 = .ok (.iconst 1, 1) := by decide +kernel
theorem dL_law_841 : decode cL_law 841 = .ok (.iadd, 1) := by decide +kernel
theorem dL_law_842 : decode cL_law 842 = .ok (.iaload, 1) := by decide +kernel
theorem dL_law_843 : decode cL_law 843 = .ok (.aload_n 0, 1) := by decide +kernel
theorem dL_law_844 : decode cL_law 844 = .ok (.iload 4, 2) := by decide +kernel
theorem dL_law_846 : decode cL_law 846 = .ok (.iconst 2, 1) := by decide +kernel
theorem dL_law_847 : decode cL_law 847 = .ok (.iadd, 1) := by decide +kernel
theorem dL_law_848 : decode cL_law 848 = .ok (.iaload, 1) := by decide +kernel
theorem dL_law_849 : decode cL_law 849 = .ok (.invokevirtual 97, 3) := by decide +kernel
theorem dL_law_852 : decode cL_law 852 = .ok (.if_icmp .eq 824, 3) := by decide +kernel
theorem Lw_safe {Inv Iny : xHp → xHp → Prop} {l : Launch} {X : xX} {b L : Nat} {xs : Nat → Int32} {n k t : Nat} {hx hm : xHp} {out : Nat → Int64} (hShp : ∀ hx hm, Inv hx hm → xShp hx hm) (hShq : ∀ hx hm, Iny hx hm → xShp hx hm) (hS : xSt Inv Iny l yX9_safe yX10_safe j9_safe j10_safe (fun as => as.length = 2)) (hW : xLw X b L xs) (hl : X.1.2.1 = l) (hI : Inv hx hm) (ht : 6 * t + 6 ≤ L) (hL : L ≤ 3072) (hn : n + 1101 ≤ 601024) (hk : k + 6606 ≤ 7293034) (kk : xLwK Iny l X b L xs n k t) : xV jL_law X n k (hLw hx hm out) 820 [(4, .int (Int32.ofNat (6 * t))), (0, .ref 2000), (1, .ref 0), (2, .ref 81), (3, .ref 101)] [] := by
  obtain ⟨hlx, hlm, ⟨fx, hx0⟩, ⟨fm, hm0⟩, hsx⟩ := hShp hx hm hI
  refine xV_aload_n 821 rfl dL_law_820 rfl 2 rfl ?_
  refine xV_aload_n 822 rfl dL_law_821 rfl 1 rfl ?_
  refine xV_iload 824 rfl dL_law_822 0 rfl ?_
  refine xV_iconst (v := 1) 825 rfl dL_law_824 (by decide) ?_
  refine xV_iadd 826 rfl dL_law_825 ?_
  refine xV_sld 827 rfl hW dL_law_826 (xArgI 1 (by decide) ht hL) (xArgJ 1 (by decide) ht hL) ?_
  refine xV_aload_n 828 rfl dL_law_827 rfl 1 rfl ?_
  refine xV_iload 830 rfl dL_law_828 0 rfl ?_
  refine xV_iconst (v := 2) 831 rfl dL_law_830 (by decide) ?_
  refine xV_iadd 832 rfl dL_law_831 ?_
  refine xV_sld 833 rfl hW dL_law_832 (xArgI 2 (by decide) ht hL) (xArgJ 2 (by decide) ht hL) ?_
  obtain ⟨v, hx2, hm2, hc9, hc10, hI2⟩ := hS [(xs (6 * t + 1)), (xs (6 * t + 2))] hx hm hI (by exact rfl)
  obtain ⟨hlx2, hlm2, ⟨fx2, hx02⟩, ⟨fm2, hm02⟩, hsx2⟩ := hShq hx2 hm2 hI2
  refine xV_pre (J := jL_law) (X := X) (pc := 833) (h := hx) (h' := hx2) (t := hm.map (xe (fun j => 81 + j)) ++ [.inl (1, 1, .inr (.inl out))]) (rest := []) (av2 := [.int (xs (6 * t + 1)), .int (xs (6 * t + 2))]) 836 rfl dL_law_833 hl hc9 m9_safe v9_safe (List.mem_of_getElem? (i := 772) (by decide +kernel)) (hlx2.trans hlx.symm) rfl (xAt0 hx0) rfl rfl (Nat.le_of_ble_eq_true rfl) (Nat.le_of_ble_eq_true rfl) (Nat.le_of_ble_eq_true rfl) ⟨xz1 hn, xz1 hk⟩ ?_
  refine xV_eq (n' := n) (k' := k) (Nat.add_zero n) (Nat.add_zero k) ?_
  show xV jL_law X n k (hLw hx2 hm out) 836 [(4, .int (Int32.ofNat (6 * t))), (0, .ref 2000), (1, .ref 0), (2, .ref 81), (3, .ref 101)] [.int v]
  refine xV_aload_n 837 rfl dL_law_836 rfl 3 rfl ?_
  refine xV_aload_n 838 rfl dL_law_837 rfl 1 rfl ?_
  refine xV_iload 840 rfl dL_law_838 0 rfl ?_
  refine xV_iconst (v := 1) 841 rfl dL_law_840 (by decide) ?_
  refine xV_iadd 842 rfl dL_law_841 ?_
  refine xV_sld 843 rfl hW dL_law_842 (xArgI 1 (by decide) ht hL) (xArgJ 1 (by decide) ht hL) ?_
  refine xV_aload_n 844 rfl dL_law_843 rfl 1 rfl ?_
  refine xV_iload 846 rfl dL_law_844 0 rfl ?_
  refine xV_iconst (v := 2) 847 rfl dL_law_846 (by decide) ?_
  refine xV_iadd 848 rfl dL_law_847 ?_
  refine xV_sld 849 rfl hW dL_law_848 (xArgI 2 (by decide) ht hL) (xArgJ 2 (by decide) ht hL) ?_
  refine xV_mid (hx := hx2) (hm := hm) (hm' := hm2) (t := [.inl (1, 1, .inr (.inl out))]) (rest := [.int v]) (av2 := [.int (xs (6 * t + 1)), .int (xs (6 * t + 2))]) 81 hlx2 852 rfl dL_law_849 hl hc10 m10_safe v10_safe (List.mem_of_getElem? (i := 788) (by decide +kernel)) (hlm2.trans hlm.symm) rfl rfl rfl hm0 rfl rfl (Nat.le_of_ble_eq_true rfl) (Nat.le_of_ble_eq_true rfl) (Nat.le_of_ble_eq_true rfl) ⟨xz1 hn, xz1 hk⟩ ?_
  refine xV_eq (n' := n) (k' := k) (Nat.add_zero n) (Nat.add_zero k) ?_
  show xV jL_law X n k (hLw hx2 hm2 out) 852 [(4, .int (Int32.ofNat (6 * t))), (0, .ref 2000), (1, .ref 0), (2, .ref 81), (3, .ref 101)] [.int v, .int v]
  refine xV_icmp_eq (tgt := 1676) 855 rfl dL_law_852 (by decide) (fun _ => ?_) (fun hq => absurd rfl hq)
  exact kk X n k hx2 hm2 out hW hl (by omega) (by omega) hI2
theorem dL_law_857 : decode cL_law 857 = .ok (.aload_n 1, 1) := by decide +kernel
theorem dL_law_858 : decode cL_law 858 = .ok (.aload_n 0, 1) := by decide +kernel
theorem dL_law_859 : decode cL_law 859 = .ok (.iload 4, 2) := by decide +kernel
theorem dL_law_861 : decode cL_law 861 = .ok (.iconst 1, 1) := by decide +kernel
theorem dL_law_862 : decode cL_law 862 = .ok (.iadd, 1) := by decide +kernel
theorem dL_law_863 : decode cL_law 863 = .ok (.iaload, 1) := by decide +kernel
theorem dL_law_864 : decode cL_law 864 = .ok (.aload_n 0, 1) := by decide +kernel
theorem dL_law_865 : decode cL_law 865 = .ok (.iload 4, 2) := by decide +kernel
theorem dL_law_867 : decode cL_law 867 = .ok (.iconst 2, 1) := by decide +kernel
theorem dL_law_868 : decode cL_law 868 = .ok (.iadd, 1) := by decide +kernel
theorem dL_law_869 : decode cL_law 869 = .ok (.iaload, 1) := by decide +kernel
theorem dL_law_870 : decode cL_law 870 = .ok (.invokevirtual 98, 3) := by decide +kernel
theorem dL_law_873 : decode cL_law 873 = .ok (.aload_n 2, 1) := by decide +kernel
theorem dL_law_874 : decode cL_law 874 = .ok (.aload_n 0, 1) := by decide +kernel
theorem dL_law_875 : decode cL_law 875 = .ok (.iload 4, 2) := by decide +kernel
theorem dL_law_877 : decode cL_law 877 = .ok (.iconst 1, 1) := by decide +kernel
theorem dL_law_878 : decode cL_law 878 = .ok (.iadd, 1) := by decide +kernel
theorem dL_law_879 : decode cL_law 879 = .ok (.iaload, 1) := by decide +kernel
theorem dL_law_880 : decode cL_law 880 = .ok (.aload_n 0, 1) := by decide +kernel
theorem dL_law_881 : decode cL_law 881 = .ok (.iload 4, 2) := by decide +kernel
theorem dL_law_883 : decode cL_law 883 = .ok (.iconst 2, 1) := by decide +kernel
theorem dL_law_884 : decode cL_law 884 = .ok (.iadd, 1) := by decide +kernel
theorem dL_law_885 : decode cL_law 885 = .ok (.iaload, 1) := by decide +kernel
theorem dL_law_886 : decode cL_law 886 = .ok (.invokevirtual 101, 3) := by decide +kernel
theorem dL_law_889 : decode cL_law 889 = .ok (.if_icmp .eq 787, 3) := by decide +kernel
theorem Lw_add {Inv Iny : xHp → xHp → Prop} {l : Launch} {X : xX} {b L : Nat} {xs : Nat → Int32} {n k t : Nat} {hx hm : xHp} {out : Nat → Int64} (hShp : ∀ hx hm, Inv hx hm → xShp hx hm) (hShq : ∀ hx hm, Iny hx hm → xShp hx hm) (hS : xSt Inv Iny l yX9_add yX10_add j9_add j10_add (fun as => as.length = 2)) (hW : xLw X b L xs) (hl : X.1.2.1 = l) (hI : Inv hx hm) (ht : 6 * t + 6 ≤ L) (hL : L ≤ 3072) (hn : n + 1101 ≤ 601024) (hk : k + 6606 ≤ 7293034) (kk : xLwK Iny l X b L xs n k t) : xV jL_law X n k (hLw hx hm out) 857 [(4, .int (Int32.ofNat (6 * t))), (0, .ref 2000), (1, .ref 0), (2, .ref 81), (3, .ref 101)] [] := by
  obtain ⟨hlx, hlm, ⟨fx, hx0⟩, ⟨fm, hm0⟩, hsx⟩ := hShp hx hm hI
  refine xV_aload_n 858 rfl dL_law_857 rfl 2 rfl ?_
  refine xV_aload_n 859 rfl dL_law_858 rfl 1 rfl ?_
  refine xV_iload 861 rfl dL_law_859 0 rfl ?_
  refine xV_iconst (v := 1) 862 rfl dL_law_861 (by decide) ?_
  refine xV_iadd 863 rfl dL_law_862 ?_
  refine xV_sld 864 rfl hW dL_law_863 (xArgI 1 (by decide) ht hL) (xArgJ 1 (by decide) ht hL) ?_
  refine xV_aload_n 865 rfl dL_law_864 rfl 1 rfl ?_
  refine xV_iload 867 rfl dL_law_865 0 rfl ?_
  refine xV_iconst (v := 2) 868 rfl dL_law_867 (by decide) ?_
  refine xV_iadd 869 rfl dL_law_868 ?_
  refine xV_sld 870 rfl hW dL_law_869 (xArgI 2 (by decide) ht hL) (xArgJ 2 (by decide) ht hL) ?_
  obtain ⟨v, hx2, hm2, hc9, hc10, hI2⟩ := hS [(xs (6 * t + 1)), (xs (6 * t + 2))] hx hm hI (by exact rfl)
  obtain ⟨hlx2, hlm2, ⟨fx2, hx02⟩, ⟨fm2, hm02⟩, hsx2⟩ := hShq hx2 hm2 hI2
  refine xV_pre (J := jL_law) (X := X) (pc := 870) (h := hx) (h' := hx2) (t := hm.map (xe (fun j => 81 + j)) ++ [.inl (1, 1, .inr (.inl out))]) (rest := []) (av2 := [.int (xs (6 * t + 1)), .int (xs (6 * t + 2))]) 873 rfl dL_law_870 hl hc9 m9_add v9_add (List.mem_of_getElem? (i := 797) (by decide +kernel)) (hlx2.trans hlx.symm) rfl (xAt0 hx0) rfl rfl (Nat.le_of_ble_eq_true rfl) (Nat.le_of_ble_eq_true rfl) (Nat.le_of_ble_eq_true rfl) ⟨xz1 hn, xz1 hk⟩ ?_
  refine xV_eq (n' := n) (k' := k) (Nat.add_zero n) (Nat.add_zero k) ?_
  show xV jL_law X n k (hLw hx2 hm out) 873 [(4, .int (Int32.ofNat (6 * t))), (0, .ref 2000), (1, .ref 0), (2, .ref 81), (3, .ref 101)] [.int v]
  refine xV_aload_n 874 rfl dL_law_873 rfl 3 rfl ?_
  refine xV_aload_n 875 rfl dL_law_874 rfl 1 rfl ?_
  refine xV_iload 877 rfl dL_law_875 0 rfl ?_
  refine xV_iconst (v := 1) 878 rfl dL_law_877 (by decide) ?_
  refine xV_iadd 879 rfl dL_law_878 ?_
  refine xV_sld 880 rfl hW dL_law_879 (xArgI 1 (by decide) ht hL) (xArgJ 1 (by decide) ht hL) ?_
  refine xV_aload_n 881 rfl dL_law_880 rfl 1 rfl ?_
  refine xV_iload 883 rfl dL_law_881 0 rfl ?_
  refine xV_iconst (v := 2) 884 rfl dL_law_883 (by decide) ?_
  refine xV_iadd 885 rfl dL_law_884 ?_
  refine xV_sld 886 rfl hW dL_law_885 (xArgI 2 (by decide) ht hL) (xArgJ 2 (by decide) ht hL) ?_
  refine xV_mid (hx := hx2) (hm := hm) (hm' := hm2) (t := [.inl (1, 1, .inr (.inl out))]) (rest := [.int v]) (av2 := [.int (xs (6 * t + 1)), .int (xs (6 * t + 2))]) 81 hlx2 889 rfl dL_law_886 hl hc10 m10_add v10_add (List.mem_of_getElem? (i := 809) (by decide +kernel)) (hlm2.trans hlm.symm) rfl rfl rfl hm0 rfl rfl (Nat.le_of_ble_eq_true rfl) (Nat.le_of_ble_eq_true rfl) (Nat.le_of_ble_eq_true rfl) ⟨xz1 hn, xz1 hk⟩ ?_
  refine xV_eq (n' := n) (k' := k) (Nat.add_zero n) (Nat.add_zero k) ?_
  show xV jL_law X n k (hLw hx2 hm2 out) 889 [(4, .int (Int32.ofNat (6 * t))), (0, .ref 2000), (1, .ref 0), (2, .ref 81), (3, .ref 101)] [.int v, .int v]
  refine xV_icmp_eq (tgt := 1676) 892 rfl dL_law_889 (by decide) (fun _ => ?_) (fun hq => absurd rfl hq)
  exact kk X n k hx2 hm2 out hW hl (by omega) (by omega) hI2
theorem dL_law_894 : decode cL_law 894 = .ok (.aload_n 1, 1) := by decide +kernel
theorem dL_law_895 : decode cL_law 895 = .ok (.aload_n 0, 1) := by decide +kernel
theorem dL_law_896 : decode cL_law 896 = .ok (.iload 4, 2) := by decide +kernel
theorem dL_law_898 : decode cL_law 898 = .ok (.iconst 1, 1) := by decide +kernel
theorem dL_law_899 : decode cL_law 899 = .ok (.iadd, 1) := by decide +kernel
theorem dL_law_900 : decode cL_law 900 = .ok (.iaload, 1) := by decide +kernel
theorem dL_law_901 : decode cL_law 901 = .ok (.invokevirtual 102, 3) := by decide +kernel
theorem dL_law_904 : decode cL_law 904 = .ok (.aload_n 2, 1) := by decide +kernel
theorem dL_law_905 : decode cL_law 905 = .ok (.aload_n 0, 1) := by decide +kernel
theorem dL_law_906 : decode cL_law 906 = .ok (.iload 4, 2) := by decide +kernel
theorem dL_law_908 : decode cL_law 908 = .ok (.iconst 1, 1) := by decide +kernel
theorem dL_law_909 : decode cL_law 909 = .ok (.iadd, 1) := by decide +kernel
theorem dL_law_910 : decode cL_law 910 = .ok (.iaload, 1) := by decide +kernel
theorem dL_law_911 : decode cL_law 911 = .ok (.invokevirtual 105, 3) := by decide +kernel
theorem dL_law_914 : decode cL_law 914 = .ok (.if_icmp .eq 762, 3) := by decide +kernel
theorem Lw_shut {Inv Iny : xHp → xHp → Prop} {l : Launch} {X : xX} {b L : Nat} {xs : Nat → Int32} {n k t : Nat} {hx hm : xHp} {out : Nat → Int64} (hShp : ∀ hx hm, Inv hx hm → xShp hx hm) (hShq : ∀ hx hm, Iny hx hm → xShp hx hm) (hS : xSt Inv Iny l yX9_shut yX10_shut j9_shut j10_shut (fun as => as.length = 1)) (hW : xLw X b L xs) (hl : X.1.2.1 = l) (hI : Inv hx hm) (ht : 6 * t + 6 ≤ L) (hL : L ≤ 3072) (hn : n + 1101 ≤ 601024) (hk : k + 6606 ≤ 7293034) (kk : xLwK Iny l X b L xs n k t) : xV jL_law X n k (hLw hx hm out) 894 [(4, .int (Int32.ofNat (6 * t))), (0, .ref 2000), (1, .ref 0), (2, .ref 81), (3, .ref 101)] [] := by
  obtain ⟨hlx, hlm, ⟨fx, hx0⟩, ⟨fm, hm0⟩, hsx⟩ := hShp hx hm hI
  refine xV_aload_n 895 rfl dL_law_894 rfl 2 rfl ?_
  refine xV_aload_n 896 rfl dL_law_895 rfl 1 rfl ?_
  refine xV_iload 898 rfl dL_law_896 0 rfl ?_
  refine xV_iconst (v := 1) 899 rfl dL_law_898 (by decide) ?_
  refine xV_iadd 900 rfl dL_law_899 ?_
  refine xV_sld 901 rfl hW dL_law_900 (xArgI 1 (by decide) ht hL) (xArgJ 1 (by decide) ht hL) ?_
  obtain ⟨v, hx2, hm2, hc9, hc10, hI2⟩ := hS [(xs (6 * t + 1))] hx hm hI (by exact rfl)
  obtain ⟨hlx2, hlm2, ⟨fx2, hx02⟩, ⟨fm2, hm02⟩, hsx2⟩ := hShq hx2 hm2 hI2
  refine xV_pre (J := jL_law) (X := X) (pc := 901) (h := hx) (h' := hx2) (t := hm.map (xe (fun j => 81 + j)) ++ [.inl (1, 1, .inr (.inl out))]) (rest := []) (av2 := [.int (xs (6 * t + 1))]) 904 rfl dL_law_901 hl hc9 m9_shut v9_shut (List.mem_of_getElem? (i := 825) (by decide +kernel)) (hlx2.trans hlx.symm) rfl (xAt0 hx0) rfl rfl (Nat.le_of_ble_eq_true rfl) (Nat.le_of_ble_eq_true rfl) (Nat.le_of_ble_eq_true rfl) ⟨xz1 hn, xz1 hk⟩ ?_
  refine xV_eq (n' := n) (k' := k) (Nat.add_zero n) (Nat.add_zero k) ?_
  show xV jL_law X n k (hLw hx2 hm out) 904 [(4, .int (Int32.ofNat (6 * t))), (0, .ref 2000), (1, .ref 0), (2, .ref 81), (3, .ref 101)] [.int v]
  refine xV_aload_n 905 rfl dL_law_904 rfl 3 rfl ?_
  refine xV_aload_n 906 rfl dL_law_905 rfl 1 rfl ?_
  refine xV_iload 908 rfl dL_law_906 0 rfl ?_
  refine xV_iconst (v := 1) 909 rfl dL_law_908 (by decide) ?_
  refine xV_iadd 910 rfl dL_law_909 ?_
  refine xV_sld 911 rfl hW dL_law_910 (xArgI 1 (by decide) ht hL) (xArgJ 1 (by decide) ht hL) ?_
  refine xV_mid (hx := hx2) (hm := hm) (hm' := hm2) (t := [.inl (1, 1, .inr (.inl out))]) (rest := [.int v]) (av2 := [.int (xs (6 * t + 1))]) 81 hlx2 914 rfl dL_law_911 hl hc10 m10_shut v10_shut (List.mem_of_getElem? (i := 829) (by decide +kernel)) (hlm2.trans hlm.symm) rfl rfl rfl hm0 rfl rfl (Nat.le_of_ble_eq_true rfl) (Nat.le_of_ble_eq_true rfl) (Nat.le_of_ble_eq_true rfl) ⟨xz1 hn, xz1 hk⟩ ?_
  refine xV_eq (n' := n) (k' := k) (Nat.add_zero n) (Nat.add_zero k) ?_
  show xV jL_law X n k (hLw hx2 hm2 out) 914 [(4, .int (Int32.ofNat (6 * t))), (0, .ref 2000), (1, .ref 0), (2, .ref 81), (3, .ref 101)] [.int v, .int v]
  refine xV_icmp_eq (tgt := 1676) 917 rfl dL_law_914 (by decide) (fun _ => ?_) (fun hq => absurd rfl hq)
  exact kk X n k hx2 hm2 out hW hl (by omega) (by omega) hI2
theorem dL_law_919 : decode cL_law 919 = .ok (.aload_n 1, 1) := by decide +kernel
theorem dL_law_920 : decode cL_law 920 = .ok (.aload_n 0, 1) := by decide +kernel
theorem dL_law_921 : decode cL_law 921 = .ok (.iload 4, 2) := by decide +kernel
theorem dL_law_923 : decode cL_law 923 = .ok (.iconst 1, 1) := by decide +kernel
theorem dL_law_924 : decode cL_law 924 = .ok (.iadd, 1) := by decide +kernel
theorem dL_law_925 : decode cL_law 925 = .ok (.iaload, 1) := by decide +kernel
theorem dL_law_926 : decode cL_law 926 = .ok (.aload_n 0, 1) := by decide +kernel
theorem dL_law_927 : decode cL_law 927 = .ok (.iload 4, 2) := by decide +kernel
theorem dL_law_929 : decode cL_law 929 = .ok (.iconst 2, 1) := by decide +kernel
theorem dL_law_930 : decode cL_law 930 = .ok (.iadd, 1) := by decide +kernel
theorem dL_law_931 : decode cL_law 931 = .ok (.iaload, 1) := by decide +kernel
theorem dL_law_932 : decode cL_law 932 = .ok (.invokevirtual 106, 3) := by decide +kernel
theorem dL_law_935 : decode cL_law 935 = .ok (.aload_n 2, 1) := by decide +kernel
theorem dL_law_936 : decode cL_law 936 = .ok (.aload_n 0, 1) := by decide +kernel
theorem dL_law_937 : decode cL_law 937 = .ok (.iload 4, 2) := by decide +kernel
theorem dL_law_939 : decode cL_law 939 = .ok (.iconst 1, 1) := by decide +kernel
theorem dL_law_940 : decode cL_law 940 = .ok (.iadd, 1) := by decide +kernel
theorem dL_law_941 : decode cL_law 941 = .ok (.iaload, 1) := by decide +kernel
theorem dL_law_942 : decode cL_law 942 = .ok (.aload_n 0, 1) := by decide +kernel
theorem dL_law_943 : decode cL_law 943 = .ok (.iload 4, 2) := by decide +kernel
theorem dL_law_945 : decode cL_law 945 = .ok (.iconst 2, 1) := by decide +kernel
theorem dL_law_946 : decode cL_law 946 = .ok (.iadd, 1) := by decide +kernel
theorem dL_law_947 : decode cL_law 947 = .ok (.iaload, 1) := by decide +kernel
theorem dL_law_948 : decode cL_law 948 = .ok (.invokevirtual 109, 3) := by decide +kernel
theorem dL_law_951 : decode cL_law 951 = .ok (.if_icmp .eq 725, 3) := by decide +kernel
theorem Lw_book {Inv Iny : xHp → xHp → Prop} {l : Launch} {X : xX} {b L : Nat} {xs : Nat → Int32} {n k t : Nat} {hx hm : xHp} {out : Nat → Int64} (hShp : ∀ hx hm, Inv hx hm → xShp hx hm) (hShq : ∀ hx hm, Iny hx hm → xShp hx hm) (hS : xSt Inv Iny l yX9_book yX10_book j9_book j10_book (fun as => as.length = 2)) (hW : xLw X b L xs) (hl : X.1.2.1 = l) (hI : Inv hx hm) (ht : 6 * t + 6 ≤ L) (hL : L ≤ 3072) (hn : n + 1101 ≤ 601024) (hk : k + 6606 ≤ 7293034) (kk : xLwK Iny l X b L xs n k t) : xV jL_law X n k (hLw hx hm out) 919 [(4, .int (Int32.ofNat (6 * t))), (0, .ref 2000), (1, .ref 0), (2, .ref 81), (3, .ref 101)] [] := by
  obtain ⟨hlx, hlm, ⟨fx, hx0⟩, ⟨fm, hm0⟩, hsx⟩ := hShp hx hm hI
  refine xV_aload_n 920 rfl dL_law_919 rfl 2 rfl ?_
  refine xV_aload_n 921 rfl dL_law_920 rfl 1 rfl ?_
  refine xV_iload 923 rfl dL_law_921 0 rfl ?_
  refine xV_iconst (v := 1) 924 rfl dL_law_923 (by decide) ?_
  refine xV_iadd 925 rfl dL_law_924 ?_
  refine xV_sld 926 rfl hW dL_law_925 (xArgI 1 (by decide) ht hL) (xArgJ 1 (by decide) ht hL) ?_
  refine xV_aload_n 927 rfl dL_law_926 rfl 1 rfl ?_
  refine xV_iload 929 rfl dL_law_927 0 rfl ?_
  refine xV_iconst (v := 2) 930 rfl dL_law_929 (by decide) ?_
  refine xV_iadd 931 rfl dL_law_930 ?_
  refine xV_sld 932 rfl hW dL_law_931 (xArgI 2 (by decide) ht hL) (xArgJ 2 (by decide) ht hL) ?_
  obtain ⟨v, hx2, hm2, hc9, hc10, hI2⟩ := hS [(xs (6 * t + 1)), (xs (6 * t + 2))] hx hm hI (by exact rfl)
  obtain ⟨hlx2, hlm2, ⟨fx2, hx02⟩, ⟨fm2, hm02⟩, hsx2⟩ := hShq hx2 hm2 hI2
  refine xV_pre (J := jL_law) (X := X) (pc := 932) (h := hx) (h' := hx2) (t := hm.map (xe (fun j => 81 + j)) ++ [.inl (1, 1, .inr (.inl out))]) (rest := []) (av2 := [.int (xs (6 * t + 1)), .int (xs (6 * t + 2))]) 935 rfl dL_law_932 hl hc9 m9_book v9_book (List.mem_of_getElem? (i := 833) (by decide +kernel)) (hlx2.trans hlx.symm) rfl (xAt0 hx0) rfl rfl (Nat.le_of_ble_eq_true rfl) (Nat.le_of_ble_eq_true rfl) (Nat.le_of_ble_eq_true rfl) ⟨xz1 hn, xz1 hk⟩ ?_
  refine xV_eq (n' := n) (k' := k) (Nat.add_zero n) (Nat.add_zero k) ?_
  show xV jL_law X n k (hLw hx2 hm out) 935 [(4, .int (Int32.ofNat (6 * t))), (0, .ref 2000), (1, .ref 0), (2, .ref 81), (3, .ref 101)] [.int v]
  refine xV_aload_n 936 rfl dL_law_935 rfl 3 rfl ?_
  refine xV_aload_n 937 rfl dL_law_936 rfl 1 rfl ?_
  refine xV_iload 939 rfl dL_law_937 0 rfl ?_
  refine xV_iconst (v := 1) 940 rfl dL_law_939 (by decide) ?_
  refine xV_iadd 941 rfl dL_law_940 ?_
  refine xV_sld 942 rfl hW dL_law_941 (xArgI 1 (by decide) ht hL) (xArgJ 1 (by decide) ht hL) ?_
  refine xV_aload_n 943 rfl dL_law_942 rfl 1 rfl ?_
  refine xV_iload 945 rfl dL_law_943 0 rfl ?_
  refine xV_iconst (v := 2) 946 rfl dL_law_945 (by decide) ?_
  refine xV_iadd 947 rfl dL_law_946 ?_
  refine xV_sld 948 rfl hW dL_law_947 (xArgI 2 (by decide) ht hL) (xArgJ 2 (by decide) ht hL) ?_
  refine xV_mid (hx := hx2) (hm := hm) (hm' := hm2) (t := [.inl (1, 1, .inr (.inl out))]) (rest := [.int v]) (av2 := [.int (xs (6 * t + 1)), .int (xs (6 * t + 2))]) 81 hlx2 951 rfl dL_law_948 hl hc10 m10_book v10_book (List.mem_of_getElem? (i := 838) (by decide +kernel)) (hlm2.trans hlm.symm) rfl rfl rfl hm0 rfl rfl (Nat.le_of_ble_eq_true rfl) (Nat.le_of_ble_eq_true rfl) (Nat.le_of_ble_eq_true rfl) ⟨xz1 hn, xz1 hk⟩ ?_
  refine xV_eq (n' := n) (k' := k) (Nat.add_zero n) (Nat.add_zero k) ?_
  show xV jL_law X n k (hLw hx2 hm2 out) 951 [(4, .int (Int32.ofNat (6 * t))), (0, .ref 2000), (1, .ref 0), (2, .ref 81), (3, .ref 101)] [.int v, .int v]
  refine xV_icmp_eq (tgt := 1676) 954 rfl dL_law_951 (by decide) (fun _ => ?_) (fun hq => absurd rfl hq)
  exact kk X n k hx2 hm2 out hW hl (by omega) (by omega) hI2
theorem dL_law_956 : decode cL_law 956 = .ok (.aload_n 1, 1) := by decide +kernel
theorem dL_law_957 : decode cL_law 957 = .ok (.aload_n 0, 1) := by decide +kernel
theorem dL_law_958 : decode cL_law 958 = .ok (.iload 4, 2) := by decide +kernel
theorem dL_law_960 : decode cL_law 960 = .ok (.iconst 1, 1) := by decide +kernel
theorem dL_law_961 : decode cL_law 961 = .ok (.iadd, 1) := by decide +kernel
theorem dL_law_962 : decode cL_law 962 = .ok (.iaload, 1) := by decide +kernel
theorem dL_law_963 : decode cL_law 963 = .ok (.invokevirtual 110, 3) := by decide +kernel
theorem dL_law_966 : decode cL_law 966 = .ok (.aload_n 2, 1) := by decide +kernel
theorem dL_law_967 : decode cL_law 967 = .ok (.aload_n 0, 1) := by decide +kernel
theorem dL_law_968 : decode cL_law 968 = .ok (.iload 4, 2) := by decide +kernel
theorem dL_law_970 : decode cL_law 970 = .ok (.iconst 1, 1) := by decide +kernel
theorem dL_law_971 : decode cL_law 971 = .ok (.iadd, 1) := by decide +kernel
theorem dL_law_972 : decode cL_law 972 = .ok (.iaload, 1) := by decide +kernel
theorem dL_law_973 : decode cL_law 973 = .ok (.invokevirtual 113, 3) := by decide +kernel
theorem dL_law_976 : decode cL_law 976 = .ok (.if_icmp .eq 700, 3) := by decide +kernel
theorem Lw_value {Inv Iny : xHp → xHp → Prop} {l : Launch} {X : xX} {b L : Nat} {xs : Nat → Int32} {n k t : Nat} {hx hm : xHp} {out : Nat → Int64} (hShp : ∀ hx hm, Inv hx hm → xShp hx hm) (hShq : ∀ hx hm, Iny hx hm → xShp hx hm) (hS : xSt Inv Iny l yX9_value yX10_value j9_value j10_value (fun as => as.length = 1)) (hW : xLw X b L xs) (hl : X.1.2.1 = l) (hI : Inv hx hm) (ht : 6 * t + 6 ≤ L) (hL : L ≤ 3072) (hn : n + 1101 ≤ 601024) (hk : k + 6606 ≤ 7293034) (kk : xLwK Iny l X b L xs n k t) : xV jL_law X n k (hLw hx hm out) 956 [(4, .int (Int32.ofNat (6 * t))), (0, .ref 2000), (1, .ref 0), (2, .ref 81), (3, .ref 101)] [] := by
  obtain ⟨hlx, hlm, ⟨fx, hx0⟩, ⟨fm, hm0⟩, hsx⟩ := hShp hx hm hI
  refine xV_aload_n 957 rfl dL_law_956 rfl 2 rfl ?_
  refine xV_aload_n 958 rfl dL_law_957 rfl 1 rfl ?_
  refine xV_iload 960 rfl dL_law_958 0 rfl ?_
  refine xV_iconst (v := 1) 961 rfl dL_law_960 (by decide) ?_
  refine xV_iadd 962 rfl dL_law_961 ?_
  refine xV_sld 963 rfl hW dL_law_962 (xArgI 1 (by decide) ht hL) (xArgJ 1 (by decide) ht hL) ?_
  obtain ⟨v, hx2, hm2, hc9, hc10, hI2⟩ := hS [(xs (6 * t + 1))] hx hm hI (by exact rfl)
  obtain ⟨hlx2, hlm2, ⟨fx2, hx02⟩, ⟨fm2, hm02⟩, hsx2⟩ := hShq hx2 hm2 hI2
  refine xV_pre (J := jL_law) (X := X) (pc := 963) (h := hx) (h' := hx2) (t := hm.map (xe (fun j => 81 + j)) ++ [.inl (1, 1, .inr (.inl out))]) (rest := []) (av2 := [.int (xs (6 * t + 1))]) 966 rfl dL_law_963 hl hc9 m9_value v9_value (List.mem_of_getElem? (i := 842) (by decide +kernel)) (hlx2.trans hlx.symm) rfl (xAt0 hx0) rfl rfl (Nat.le_of_ble_eq_true rfl) (Nat.le_of_ble_eq_true rfl) (Nat.le_of_ble_eq_true rfl) ⟨xz1 hn, xz1 hk⟩ ?_
  refine xV_eq (n' := n) (k' := k) (Nat.add_zero n) (Nat.add_zero k) ?_
  show xV jL_law X n k (hLw hx2 hm out) 966 [(4, .int (Int32.ofNat (6 * t))), (0, .ref 2000), (1, .ref 0), (2, .ref 81), (3, .ref 101)] [.int v]
  refine xV_aload_n 967 rfl dL_law_966 rfl 3 rfl ?_
  refine xV_aload_n 968 rfl dL_law_967 rfl 1 rfl ?_
  refine xV_iload 970 rfl dL_law_968 0 rfl ?_
  refine xV_iconst (v := 1) 971 rfl dL_law_970 (by decide) ?_
  refine xV_iadd 972 rfl dL_law_971 ?_
  refine xV_sld 973 rfl hW dL_law_972 (xArgI 1 (by decide) ht hL) (xArgJ 1 (by decide) ht hL) ?_
  refine xV_mid (hx := hx2) (hm := hm) (hm' := hm2) (t := [.inl (1, 1, .inr (.inl out))]) (rest := [.int v]) (av2 := [.int (xs (6 * t + 1))]) 81 hlx2 976 rfl dL_law_973 hl hc10 m10_value v10_value (List.mem_of_getElem? (i := 919) (by decide +kernel)) (hlm2.trans hlm.symm) rfl rfl rfl hm0 rfl rfl (Nat.le_of_ble_eq_true rfl) (Nat.le_of_ble_eq_true rfl) (Nat.le_of_ble_eq_true rfl) ⟨xz1 hn, xz1 hk⟩ ?_
  refine xV_eq (n' := n) (k' := k) (Nat.add_zero n) (Nat.add_zero k) ?_
  show xV jL_law X n k (hLw hx2 hm2 out) 976 [(4, .int (Int32.ofNat (6 * t))), (0, .ref 2000), (1, .ref 0), (2, .ref 81), (3, .ref 101)] [.int v, .int v]
  refine xV_icmp_eq (tgt := 1676) 979 rfl dL_law_976 (by decide) (fun _ => ?_) (fun hq => absurd rfl hq)
  exact kk X n k hx2 hm2 out hW hl (by omega) (by omega) hI2
theorem dL_law_981 : decode cL_law 981 = .ok (.aload_n 1, 1) := by decide +kernel
theorem dL_law_982 : decode cL_law 982 = .ok (.aload_n 0, 1) := by decide +kernel
theorem dL_law_983 : decode cL_law 983 = .ok (.iload 4, 2) := by decide +kernel
theorem dL_law_985 : decode cL_law 985 = .ok (.iconst 1, 1) := by decide +kernel
theorem dL_law_986 : decode cL_law 986 = .ok (.iadd, 1) := by decide +kernel
theorem dL_law_987 : decode cL_law 987 = .ok (.iaload, 1) := by decide +kernel
theorem dL_law_988 : decode cL_law 988 = .ok (.aload_n 0, 1) := by decide +kernel
theorem dL_law_989 : decode cL_law 989 = .ok (.iload 4, 2) := by decide +kernel
theorem dL_law_991 : decode cL_law 991 = .ok (.iconst 2, 1) := by decide +kernel
theorem dL_law_992 : decode cL_law 992 = .ok (.iadd, 1) := by decide +kernel
theorem dL_law_993 : decode cL_law 993 = .ok (.iaload, 1) := by decide +kernel
theorem dL_law_994 : decode cL_law 994 = .ok (.aload_n 0, 1) := by decide +kernel
theorem dL_law_995 : decode cL_law 995 = .ok (.iload 4, 2) := by decide +kernel
theorem dL_law_997 : decode cL_law 997 = .ok (.iconst 3, 1) := by decide +kernel
theorem dL_law_998 : decode cL_law 998 = .ok (.iadd, 1) := by decide +kernel
theorem dL_law_999 : decode cL_law 999 = .ok (.iaload, 1) := by decide +kernel
theorem dL_law_1000 : decode cL_law 1000 = .ok (.invokevirtual 114, 3) := by decide +kernel
theorem dL_law_1003 : decode cL_law 1003 = .ok (.aload_n 2, 1) := by decide +kernel
theorem dL_law_1004 : decode cL_law 1004 = .ok (.aload_n 0, 1) := by decide +kernel
theorem dL_law_1005 : decode cL_law 1005 = .ok (.iload 4, 2) := by decide +kernel
theorem dL_law_1007 : decode cL_law 1007 = .ok (.iconst 1, 1) := by decide +kernel
theorem dL_law_1008 : decode cL_law 1008 = .ok (.iadd, 1) := by decide +kernel
theorem dL_law_1009 : decode cL_law 1009 = .ok (.iaload, 1) := by decide +kernel
theorem dL_law_1010 : decode cL_law 1010 = .ok (.aload_n 0, 1) := by decide +kernel
theorem dL_law_1011 : decode cL_law 1011 = .ok (.iload 4, 2) := by decide +kernel
theorem dL_law_1013 : decode cL_law 1013 = .ok (.iconst 2, 1) := by decide +kernel
theorem dL_law_1014 : decode cL_law 1014 = .ok (.iadd, 1) := by decide +kernel
theorem dL_law_1015 : decode cL_law 1015 = .ok (.iaload, 1) := by decide +kernel
theorem dL_law_1016 : decode cL_law 1016 = .ok (.aload_n 0, 1) := by decide +kernel
theorem dL_law_1017 : decode cL_law 1017 = .ok (.iload 4, 2) := by decide +kernel
theorem dL_law_1019 : decode cL_law 1019 = .ok (.iconst 3, 1) := by decide +kernel
theorem dL_law_1020 : decode cL_law 1020 = .ok (.iadd, 1) := by decide +kernel
theorem dL_law_1021 : decode cL_law 1021 = .ok (.iaload, 1) := by decide +kernel
theorem dL_law_1022 : decode cL_law 1022 = .ok (.invokevirtual 117, 3) := by decide +kernel
theorem dL_law_1025 : decode cL_law 1025 = .ok (.if_icmp .eq 651, 3) := by decide +kernel
theorem Lw_best {Inv Iny : xHp → xHp → Prop} {l : Launch} {X : xX} {b L : Nat} {xs : Nat → Int32} {n k t : Nat} {hx hm : xHp} {out : Nat → Int64} (hShp : ∀ hx hm, Inv hx hm → xShp hx hm) (hShq : ∀ hx hm, Iny hx hm → xShp hx hm) (hS : xSt Inv Iny l yX9_best yX10_best j9_best j10_best (fun as => as.length = 3)) (hW : xLw X b L xs) (hl : X.1.2.1 = l) (hI : Inv hx hm) (ht : 6 * t + 6 ≤ L) (hL : L ≤ 3072) (hn : n + 1101 ≤ 601024) (hk : k + 6606 ≤ 7293034) (kk : xLwK Iny l X b L xs n k t) : xV jL_law X n k (hLw hx hm out) 981 [(4, .int (Int32.ofNat (6 * t))), (0, .ref 2000), (1, .ref 0), (2, .ref 81), (3, .ref 101)] [] := by
  obtain ⟨hlx, hlm, ⟨fx, hx0⟩, ⟨fm, hm0⟩, hsx⟩ := hShp hx hm hI
  refine xV_aload_n 982 rfl dL_law_981 rfl 2 rfl ?_
  refine xV_aload_n 983 rfl dL_law_982 rfl 1 rfl ?_
  refine xV_iload 985 rfl dL_law_983 0 rfl ?_
  refine xV_iconst (v := 1) 986 rfl dL_law_985 (by decide) ?_
  refine xV_iadd 987 rfl dL_law_986 ?_
  refine xV_sld 988 rfl hW dL_law_987 (xArgI 1 (by decide) ht hL) (xArgJ 1 (by decide) ht hL) ?_
  refine xV_aload_n 989 rfl dL_law_988 rfl 1 rfl ?_
  refine xV_iload 991 rfl dL_law_989 0 rfl ?_
  refine xV_iconst (v := 2) 992 rfl dL_law_991 (by decide) ?_
  refine xV_iadd 993 rfl dL_law_992 ?_
  refine xV_sld 994 rfl hW dL_law_993 (xArgI 2 (by decide) ht hL) (xArgJ 2 (by decide) ht hL) ?_
  refine xV_aload_n 995 rfl dL_law_994 rfl 1 rfl ?_
  refine xV_iload 997 rfl dL_law_995 0 rfl ?_
  refine xV_iconst (v := 3) 998 rfl dL_law_997 (by decide) ?_
  refine xV_iadd 999 rfl dL_law_998 ?_
  refine xV_sld 1000 rfl hW dL_law_999 (xArgI 3 (by decide) ht hL) (xArgJ 3 (by decide) ht hL) ?_
  obtain ⟨v, hx2, hm2, hc9, hc10, hI2⟩ := hS [(xs (6 * t + 1)), (xs (6 * t + 2)), (xs (6 * t + 3))] hx hm hI (by exact rfl)
  obtain ⟨hlx2, hlm2, ⟨fx2, hx02⟩, ⟨fm2, hm02⟩, hsx2⟩ := hShq hx2 hm2 hI2
  refine xV_pre (J := jL_law) (X := X) (pc := 1000) (h := hx) (h' := hx2) (t := hm.map (xe (fun j => 81 + j)) ++ [.inl (1, 1, .inr (.inl out))]) (rest := []) (av2 := [.int (xs (6 * t + 1)), .int (xs (6 * t + 2)), .int (xs (6 * t + 3))]) 1003 rfl dL_law_1000 hl hc9 m9_best v9_best (List.mem_of_getElem? (i := 980) (by decide +kernel)) (hlx2.trans hlx.symm) rfl (xAt0 hx0) rfl rfl (Nat.le_of_ble_eq_true rfl) (Nat.le_of_ble_eq_true rfl) (Nat.le_of_ble_eq_true rfl) ⟨xz1 hn, xz1 hk⟩ ?_
  refine xV_eq (n' := n) (k' := k) (Nat.add_zero n) (Nat.add_zero k) ?_
  show xV jL_law X n k (hLw hx2 hm out) 1003 [(4, .int (Int32.ofNat (6 * t))), (0, .ref 2000), (1, .ref 0), (2, .ref 81), (3, .ref 101)] [.int v]
  refine xV_aload_n 1004 rfl dL_law_1003 rfl 3 rfl ?_
  refine xV_aload_n 1005 rfl dL_law_1004 rfl 1 rfl ?_
  refine xV_iload 1007 rfl dL_law_1005 0 rfl ?_
  refine xV_iconst (v := 1) 1008 rfl dL_law_1007 (by decide) ?_
  refine xV_iadd 1009 rfl dL_law_1008 ?_
  refine xV_sld 1010 rfl hW dL_law_1009 (xArgI 1 (by decide) ht hL) (xArgJ 1 (by decide) ht hL) ?_
  refine xV_aload_n 1011 rfl dL_law_1010 rfl 1 rfl ?_
  refine xV_iload 1013 rfl dL_law_1011 0 rfl ?_
  refine xV_iconst (v := 2) 1014 rfl dL_law_1013 (by decide) ?_
  refine xV_iadd 1015 rfl dL_law_1014 ?_
  refine xV_sld 1016 rfl hW dL_law_1015 (xArgI 2 (by decide) ht hL) (xArgJ 2 (by decide) ht hL) ?_
  refine xV_aload_n 1017 rfl dL_law_1016 rfl 1 rfl ?_
  refine xV_iload 1019 rfl dL_law_1017 0 rfl ?_
  refine xV_iconst (v := 3) 1020 rfl dL_law_1019 (by decide) ?_
  refine xV_iadd 1021 rfl dL_law_1020 ?_
  refine xV_sld 1022 rfl hW dL_law_1021 (xArgI 3 (by decide) ht hL) (xArgJ 3 (by decide) ht hL) ?_
  refine xV_mid (hx := hx2) (hm := hm) (hm' := hm2) (t := [.inl (1, 1, .inr (.inl out))]) (rest := [.int v]) (av2 := [.int (xs (6 * t + 1)), .int (xs (6 * t + 2)), .int (xs (6 * t + 3))]) 81 hlx2 1025 rfl dL_law_1022 hl hc10 m10_best v10_best (List.mem_of_getElem? (i := 988) (by decide +kernel)) (hlm2.trans hlm.symm) rfl rfl rfl hm0 rfl rfl (Nat.le_of_ble_eq_true rfl) (Nat.le_of_ble_eq_true rfl) (Nat.le_of_ble_eq_true rfl) ⟨xz1 hn, xz1 hk⟩ ?_
  refine xV_eq (n' := n) (k' := k) (Nat.add_zero n) (Nat.add_zero k) ?_
  show xV jL_law X n k (hLw hx2 hm2 out) 1025 [(4, .int (Int32.ofNat (6 * t))), (0, .ref 2000), (1, .ref 0), (2, .ref 81), (3, .ref 101)] [.int v, .int v]
  refine xV_icmp_eq (tgt := 1676) 1028 rfl dL_law_1025 (by decide) (fun _ => ?_) (fun hq => absurd rfl hq)
  exact kk X n k hx2 hm2 out hW hl (by omega) (by omega) hI2
theorem dL_law_1030 : decode cL_law 1030 = .ok (.aload_n 1, 1) := by decide +kernel
theorem dL_law_1031 : decode cL_law 1031 = .ok (.aload_n 0, 1) := by decide +kernel
theorem dL_law_1032 : decode cL_law 1032 = .ok (.iload 4, 2) := by decide +kernel
theorem dL_law_1034 : decode cL_law 1034 = .ok (.iconst 1, 1) := by decide +kernel
theorem dL_law_1035 : decode cL_law 1035 = .ok (.iadd, 1) := by decide +kernel
theorem dL_law_1036 : decode cL_law 1036 = .ok (.iaload, 1) := by decide +kernel
theorem dL_law_1037 : decode cL_law 1037 = .ok (.aload_n 0, 1) := by decide +kernel
theorem dL_law_1038 : decode cL_law 1038 = .ok (.iload 4, 2) := by decide +kernel
theorem dL_law_1040 : decode cL_law 1040 = .ok (.iconst 2, 1) := by decide +kernel
theorem dL_law_1041 : decode cL_law 1041 = .ok (.iadd, 1) := by decide +kernel
theorem dL_law_1042 : decode cL_law 1042 = .ok (.iaload, 1) := by decide +kernel
theorem dL_law_1043 : decode cL_law 1043 = .ok (.aload_n 0, 1) := by decide +kernel
theorem dL_law_1044 : decode cL_law 1044 = .ok (.iload 4, 2) := by decide +kernel
theorem dL_law_1046 : decode cL_law 1046 = .ok (.iconst 3, 1) := by decide +kernel
theorem dL_law_1047 : decode cL_law 1047 = .ok (.iadd, 1) := by decide +kernel
theorem dL_law_1048 : decode cL_law 1048 = .ok (.iaload, 1) := by decide +kernel
theorem dL_law_1049 : decode cL_law 1049 = .ok (.invokevirtual 118, 3) := by decide +kernel
theorem dL_law_1052 : decode cL_law 1052 = .ok (.aload_n 2, 1) := by decide +kernel
theorem dL_law_1053 : decode cL_law 1053 = .ok (.aload_n 0, 1) := by decide +kernel
theorem dL_law_1054 : decode cL_law 1054 = .ok (.iload 4, 2) := by decide +kernel
theorem dL_law_1056 : decode cL_law 1056 = .ok (.iconst 1, 1) := by decide +kernel
theorem dL_law_1057 : decode cL_law 1057 = .ok (.iadd, 1) := by decide +kernel
theorem dL_law_1058 : decode cL_law 1058 = .ok (.iaload, 1) := by decide +kernel
theorem dL_law_1059 : decode cL_law 1059 = .ok (.aload_n 0, 1) := by decide +kernel
theorem dL_law_1060 : decode cL_law 1060 = .ok (.iload 4, 2) := by decide +kernel
theorem dL_law_1062 : decode cL_law 1062 = .ok (.iconst 2, 1) := by decide +kernel
theorem dL_law_1063 : decode cL_law 1063 = .ok (.iadd, 1) := by decide +kernel
theorem dL_law_1064 : decode cL_law 1064 = .ok (.iaload, 1) := by decide +kernel
theorem dL_law_1065 : decode cL_law 1065 = .ok (.aload_n 0, 1) := by decide +kernel
theorem dL_law_1066 : decode cL_law 1066 = .ok (.iload 4, 2) := by decide +kernel
theorem dL_law_1068 : decode cL_law 1068 = .ok (.iconst 3, 1) := by decide +kernel
theorem dL_law_1069 : decode cL_law 1069 = .ok (.iadd, 1) := by decide +kernel
theorem dL_law_1070 : decode cL_law 1070 = .ok (.iaload, 1) := by decide +kernel
theorem dL_law_1071 : decode cL_law 1071 = .ok (.invokevirtual 121, 3) := by decide +kernel
theorem dL_law_1074 : decode cL_law 1074 = .ok (.if_icmp .eq 602, 3) := by decide +kernel
theorem Lw_valueWith {Inv Iny : xHp → xHp → Prop} {l : Launch} {X : xX} {b L : Nat} {xs : Nat → Int32} {n k t : Nat} {hx hm : xHp} {out : Nat → Int64} (hShp : ∀ hx hm, Inv hx hm → xShp hx hm) (hShq : ∀ hx hm, Iny hx hm → xShp hx hm) (hS : xSt Inv Iny l yX9_valueWith yX10_valueWith j9_valueWith j10_valueWith (fun as => as.length = 3)) (hW : xLw X b L xs) (hl : X.1.2.1 = l) (hI : Inv hx hm) (ht : 6 * t + 6 ≤ L) (hL : L ≤ 3072) (hn : n + 1101 ≤ 601024) (hk : k + 6606 ≤ 7293034) (kk : xLwK Iny l X b L xs n k t) : xV jL_law X n k (hLw hx hm out) 1030 [(4, .int (Int32.ofNat (6 * t))), (0, .ref 2000), (1, .ref 0), (2, .ref 81), (3, .ref 101)] [] := by
  obtain ⟨hlx, hlm, ⟨fx, hx0⟩, ⟨fm, hm0⟩, hsx⟩ := hShp hx hm hI
  refine xV_aload_n 1031 rfl dL_law_1030 rfl 2 rfl ?_
  refine xV_aload_n 1032 rfl dL_law_1031 rfl 1 rfl ?_
  refine xV_iload 1034 rfl dL_law_1032 0 rfl ?_
  refine xV_iconst (v := 1) 1035 rfl dL_law_1034 (by decide) ?_
  refine xV_iadd 1036 rfl dL_law_1035 ?_
  refine xV_sld 1037 rfl hW dL_law_1036 (xArgI 1 (by decide) ht hL) (xArgJ 1 (by decide) ht hL) ?_
  refine xV_aload_n 1038 rfl dL_law_1037 rfl 1 rfl ?_
  refine xV_iload 1040 rfl dL_law_1038 0 rfl ?_
  refine xV_iconst (v := 2) 1041 rfl dL_law_1040 (by decide) ?_
  refine xV_iadd 1042 rfl dL_law_1041 ?_
  refine xV_sld 1043 rfl hW dL_law_1042 (xArgI 2 (by decide) ht hL) (xArgJ 2 (by decide) ht hL) ?_
  refine xV_aload_n 1044 rfl dL_law_1043 rfl 1 rfl ?_
  refine xV_iload 1046 rfl dL_law_1044 0 rfl ?_
  refine xV_iconst (v := 3) 1047 rfl dL_law_1046 (by decide) ?_
  refine xV_iadd 1048 rfl dL_law_1047 ?_
  refine xV_sld 1049 rfl hW dL_law_1048 (xArgI 3 (by decide) ht hL) (xArgJ 3 (by decide) ht hL) ?_
  obtain ⟨v, hx2, hm2, hc9, hc10, hI2⟩ := hS [(xs (6 * t + 1)), (xs (6 * t + 2)), (xs (6 * t + 3))] hx hm hI (by exact rfl)
  obtain ⟨hlx2, hlm2, ⟨fx2, hx02⟩, ⟨fm2, hm02⟩, hsx2⟩ := hShq hx2 hm2 hI2
  refine xV_pre (J := jL_law) (X := X) (pc := 1049) (h := hx) (h' := hx2) (t := hm.map (xe (fun j => 81 + j)) ++ [.inl (1, 1, .inr (.inl out))]) (rest := []) (av2 := [.int (xs (6 * t + 1)), .int (xs (6 * t + 2)), .int (xs (6 * t + 3))]) 1052 rfl dL_law_1049 hl hc9 m9_valueWith v9_valueWith (List.mem_of_getElem? (i := 992) (by decide +kernel)) (hlx2.trans hlx.symm) rfl (xAt0 hx0) rfl rfl (Nat.le_of_ble_eq_true rfl) (Nat.le_of_ble_eq_true rfl) (Nat.le_of_ble_eq_true rfl) ⟨xz1 hn, xz1 hk⟩ ?_
  refine xV_eq (n' := n) (k' := k) (Nat.add_zero n) (Nat.add_zero k) ?_
  show xV jL_law X n k (hLw hx2 hm out) 1052 [(4, .int (Int32.ofNat (6 * t))), (0, .ref 2000), (1, .ref 0), (2, .ref 81), (3, .ref 101)] [.int v]
  refine xV_aload_n 1053 rfl dL_law_1052 rfl 3 rfl ?_
  refine xV_aload_n 1054 rfl dL_law_1053 rfl 1 rfl ?_
  refine xV_iload 1056 rfl dL_law_1054 0 rfl ?_
  refine xV_iconst (v := 1) 1057 rfl dL_law_1056 (by decide) ?_
  refine xV_iadd 1058 rfl dL_law_1057 ?_
  refine xV_sld 1059 rfl hW dL_law_1058 (xArgI 1 (by decide) ht hL) (xArgJ 1 (by decide) ht hL) ?_
  refine xV_aload_n 1060 rfl dL_law_1059 rfl 1 rfl ?_
  refine xV_iload 1062 rfl dL_law_1060 0 rfl ?_
  refine xV_iconst (v := 2) 1063 rfl dL_law_1062 (by decide) ?_
  refine xV_iadd 1064 rfl dL_law_1063 ?_
  refine xV_sld 1065 rfl hW dL_law_1064 (xArgI 2 (by decide) ht hL) (xArgJ 2 (by decide) ht hL) ?_
  refine xV_aload_n 1066 rfl dL_law_1065 rfl 1 rfl ?_
  refine xV_iload 1068 rfl dL_law_1066 0 rfl ?_
  refine xV_iconst (v := 3) 1069 rfl dL_law_1068 (by decide) ?_
  refine xV_iadd 1070 rfl dL_law_1069 ?_
  refine xV_sld 1071 rfl hW dL_law_1070 (xArgI 3 (by decide) ht hL) (xArgJ 3 (by decide) ht hL) ?_
  refine xV_mid (hx := hx2) (hm := hm) (hm' := hm2) (t := [.inl (1, 1, .inr (.inl out))]) (rest := [.int v]) (av2 := [.int (xs (6 * t + 1)), .int (xs (6 * t + 2)), .int (xs (6 * t + 3))]) 81 hlx2 1074 rfl dL_law_1071 hl hc10 m10_valueWith v10_valueWith (List.mem_of_getElem? (i := 1000) (by decide +kernel)) (hlm2.trans hlm.symm) rfl rfl rfl hm0 rfl rfl (Nat.le_of_ble_eq_true rfl) (Nat.le_of_ble_eq_true rfl) (Nat.le_of_ble_eq_true rfl) ⟨xz1 hn, xz1 hk⟩ ?_
  refine xV_eq (n' := n) (k' := k) (Nat.add_zero n) (Nat.add_zero k) ?_
  show xV jL_law X n k (hLw hx2 hm2 out) 1074 [(4, .int (Int32.ofNat (6 * t))), (0, .ref 2000), (1, .ref 0), (2, .ref 81), (3, .ref 101)] [.int v, .int v]
  refine xV_icmp_eq (tgt := 1676) 1077 rfl dL_law_1074 (by decide) (fun _ => ?_) (fun hq => absurd rfl hq)
  exact kk X n k hx2 hm2 out hW hl (by omega) (by omega) hI2
theorem dL_law_1079 : decode cL_law 1079 = .ok (.aload_n 1, 1) := by decide +kernel
theorem dL_law_1080 : decode cL_law 1080 = .ok (.aload_n 0, 1) := by decide +kernel
theorem dL_law_1081 : decode cL_law 1081 = .ok (.iload 4, 2) := by decide +kernel
theorem dL_law_1083 : decode cL_law 1083 = .ok (.iconst 1, 1) := by decide +kernel
theorem dL_law_1084 : decode cL_law 1084 = .ok (.iadd, 1) := by decide +kernel
theorem dL_law_1085 : decode cL_law 1085 = .ok (.iaload, 1) := by decide +kernel
theorem dL_law_1086 : decode cL_law 1086 = .ok (.invokevirtual 122, 3) := by decide +kernel
theorem dL_law_1089 : decode cL_law 1089 = .ok (.aload_n 2, 1) := by decide +kernel
theorem dL_law_1090 : decode cL_law 1090 = .ok (.aload_n 0, 1) := by decide +kernel
theorem dL_law_1091 : decode cL_law 1091 = .ok (.iload 4, 2) := by decide +kernel
theorem dL_law_1093 : decode cL_law 1093 = .ok (.iconst 1, 1) := by decide +kernel
theorem dL_law_1094 : decode cL_law 1094 = .ok (.iadd, 1) := by decide +kernel
theorem dL_law_1095 : decode cL_law 1095 = .ok (.iaload, 1) := by decide +kernel
theorem dL_law_1096 : decode cL_law 1096 = .ok (.invokevirtual 125, 3) := by decide +kernel
theorem dL_law_1099 : decode cL_law 1099 = .ok (.if_icmp .eq 577, 3) := by decide +kernel
theorem Lw_needless {Inv Iny : xHp → xHp → Prop} {l : Launch} {X : xX} {b L : Nat} {xs : Nat → Int32} {n k t : Nat} {hx hm : xHp} {out : Nat → Int64} (hShp : ∀ hx hm, Inv hx hm → xShp hx hm) (hShq : ∀ hx hm, Iny hx hm → xShp hx hm) (hS : xSt Inv Iny l yX9_needless yX10_needless j9_needless j10_needless (fun as => as.length = 1)) (hW : xLw X b L xs) (hl : X.1.2.1 = l) (hI : Inv hx hm) (ht : 6 * t + 6 ≤ L) (hL : L ≤ 3072) (hn : n + 1101 ≤ 601024) (hk : k + 6606 ≤ 7293034) (kk : xLwK Iny l X b L xs n k t) : xV jL_law X n k (hLw hx hm out) 1079 [(4, .int (Int32.ofNat (6 * t))), (0, .ref 2000), (1, .ref 0), (2, .ref 81), (3, .ref 101)] [] := by
  obtain ⟨hlx, hlm, ⟨fx, hx0⟩, ⟨fm, hm0⟩, hsx⟩ := hShp hx hm hI
  refine xV_aload_n 1080 rfl dL_law_1079 rfl 2 rfl ?_
  refine xV_aload_n 1081 rfl dL_law_1080 rfl 1 rfl ?_
  refine xV_iload 1083 rfl dL_law_1081 0 rfl ?_
  refine xV_iconst (v := 1) 1084 rfl dL_law_1083 (by decide) ?_
  refine xV_iadd 1085 rfl dL_law_1084 ?_
  refine xV_sld 1086 rfl hW dL_law_1085 (xArgI 1 (by decide) ht hL) (xArgJ 1 (by decide) ht hL) ?_
  obtain ⟨v, hx2, hm2, hc9, hc10, hI2⟩ := hS [(xs (6 * t + 1))] hx hm hI (by exact rfl)
  obtain ⟨hlx2, hlm2, ⟨fx2, hx02⟩, ⟨fm2, hm02⟩, hsx2⟩ := hShq hx2 hm2 hI2
  refine xV_pre (J := jL_law) (X := X) (pc := 1086) (h := hx) (h' := hx2) (t := hm.map (xe (fun j => 81 + j)) ++ [.inl (1, 1, .inr (.inl out))]) (rest := []) (av2 := [.int (xs (6 * t + 1))]) 1089 rfl dL_law_1086 hl hc9 m9_needless v9_needless (List.mem_of_getElem? (i := 1004) (by decide +kernel)) (hlx2.trans hlx.symm) rfl (xAt0 hx0) rfl rfl (Nat.le_of_ble_eq_true rfl) (Nat.le_of_ble_eq_true rfl) (Nat.le_of_ble_eq_true rfl) ⟨xz1 hn, xz1 hk⟩ ?_
  refine xV_eq (n' := n) (k' := k) (Nat.add_zero n) (Nat.add_zero k) ?_
  show xV jL_law X n k (hLw hx2 hm out) 1089 [(4, .int (Int32.ofNat (6 * t))), (0, .ref 2000), (1, .ref 0), (2, .ref 81), (3, .ref 101)] [.int v]
  refine xV_aload_n 1090 rfl dL_law_1089 rfl 3 rfl ?_
  refine xV_aload_n 1091 rfl dL_law_1090 rfl 1 rfl ?_
  refine xV_iload 1093 rfl dL_law_1091 0 rfl ?_
  refine xV_iconst (v := 1) 1094 rfl dL_law_1093 (by decide) ?_
  refine xV_iadd 1095 rfl dL_law_1094 ?_
  refine xV_sld 1096 rfl hW dL_law_1095 (xArgI 1 (by decide) ht hL) (xArgJ 1 (by decide) ht hL) ?_
  refine xV_mid (hx := hx2) (hm := hm) (hm' := hm2) (t := [.inl (1, 1, .inr (.inl out))]) (rest := [.int v]) (av2 := [.int (xs (6 * t + 1))]) 81 hlx2 1099 rfl dL_law_1096 hl hc10 m10_needless v10_needless (List.mem_of_getElem? (i := 1012) (by decide +kernel)) (hlm2.trans hlm.symm) rfl rfl rfl hm0 rfl rfl (Nat.le_of_ble_eq_true rfl) (Nat.le_of_ble_eq_true rfl) (Nat.le_of_ble_eq_true rfl) ⟨xz1 hn, xz1 hk⟩ ?_
  refine xV_eq (n' := n) (k' := k) (Nat.add_zero n) (Nat.add_zero k) ?_
  show xV jL_law X n k (hLw hx2 hm2 out) 1099 [(4, .int (Int32.ofNat (6 * t))), (0, .ref 2000), (1, .ref 0), (2, .ref 81), (3, .ref 101)] [.int v, .int v]
  refine xV_icmp_eq (tgt := 1676) 1102 rfl dL_law_1099 (by decide) (fun _ => ?_) (fun hq => absurd rfl hq)
  exact kk X n k hx2 hm2 out hW hl (by omega) (by omega) hI2
theorem dL_law_1104 : decode cL_law 1104 = .ok (.aload_n 1, 1) := by decide +kernel
theorem dL_law_1105 : decode cL_law 1105 = .ok (.aload_n 0, 1) := by decide +kernel
theorem dL_law_1106 : decode cL_law 1106 = .ok (.iload 4, 2) := by decide +kernel
theorem dL_law_1108 : decode cL_law 1108 = .ok (.iconst 1, 1) := by decide +kernel
theorem dL_law_1109 : decode cL_law 1109 = .ok (.iadd, 1) := by decide +kernel
theorem dL_law_1110 : decode cL_law 1110 = .ok (.iaload, 1) := by decide +kernel
theorem dL_law_1111 : decode cL_law 1111 = .ok (.aload_n 0, 1) := by decide +kernel
theorem dL_law_1112 : decode cL_law 1112 = .ok (.iload 4, 2) := by decide +kernel
theorem dL_law_1114 : decode cL_law 1114 = .ok (.iconst 2, 1) := by decide +kernel
theorem dL_law_1115 : decode cL_law 1115 = .ok (.iadd, 1) := by decide +kernel
theorem dL_law_1116 : decode cL_law 1116 = .ok (.iaload, 1) := by decide +kernel
theorem dL_law_1117 : decode cL_law 1117 = .ok (.aload_n 0, 1) := by decide +kernel
theorem dL_law_1118 : decode cL_law 1118 = .ok (.iload 4, 2) := by decide +kernel
theorem dL_law_1120 : decode cL_law 1120 = .ok (.iconst 3, 1) := by decide +kernel
theorem dL_law_1121 : decode cL_law 1121 = .ok (.iadd, 1) := by decide +kernel
theorem dL_law_1122 : decode cL_law 1122 = .ok (.iaload, 1) := by decide +kernel
theorem dL_law_1123 : decode cL_law 1123 = .ok (.invokevirtual 126, 3) := by decide +kernel
theorem dL_law_1126 : decode cL_law 1126 = .ok (.aload_n 2, 1) := by decide +kernel
theorem dL_law_1127 : decode cL_law 1127 = .ok (.aload_n 0, 1) := by decide +kernel
theorem dL_law_1128 : decode cL_law 1128 = .ok (.iload 4, 2) := by decide +kernel
theorem dL_law_1130 : decode cL_law 1130 = .ok (.iconst 1, 1) := by decide +kernel
theorem dL_law_1131 : decode cL_law 1131 = .ok (.iadd, 1) := by decide +kernel
theorem dL_law_1132 : decode cL_law 1132 = .ok (.iaload, 1) := by decide +kernel
theorem dL_law_1133 : decode cL_law 1133 = .ok (.aload_n 0, 1) := by decide +kernel
theorem dL_law_1134 : decode cL_law 1134 = .ok (.iload 4, 2) := by decide +kernel
theorem dL_law_1136 : decode cL_law 1136 = .ok (.iconst 2, 1) := by decide +kernel
theorem dL_law_1137 : decode cL_law 1137 = .ok (.iadd, 1) := by decide +kernel
theorem dL_law_1138 : decode cL_law 1138 = .ok (.iaload, 1) := by decide +kernel
theorem dL_law_1139 : decode cL_law 1139 = .ok (.aload_n 0, 1) := by decide +kernel
theorem dL_law_1140 : decode cL_law 1140 = .ok (.iload 4, 2) := by decide +kernel
theorem dL_law_1142 : decode cL_law 1142 = .ok (.iconst 3, 1) := by decide +kernel
theorem dL_law_1143 : decode cL_law 1143 = .ok (.iadd, 1) := by decide +kernel
theorem dL_law_1144 : decode cL_law 1144 = .ok (.iaload, 1) := by decide +kernel
theorem dL_law_1145 : decode cL_law 1145 = .ok (.invokevirtual 129, 3) := by decide +kernel
theorem dL_law_1148 : decode cL_law 1148 = .ok (.if_icmp .eq 528, 3) := by decide +kernel
theorem Lw_plan {Inv Iny : xHp → xHp → Prop} {l : Launch} {X : xX} {b L : Nat} {xs : Nat → Int32} {n k t : Nat} {hx hm : xHp} {out : Nat → Int64} (hShp : ∀ hx hm, Inv hx hm → xShp hx hm) (hShq : ∀ hx hm, Iny hx hm → xShp hx hm) (hS : xSt Inv Iny l yX9_plan yX10_plan j9_plan j10_plan (fun as => as.length = 3)) (hW : xLw X b L xs) (hl : X.1.2.1 = l) (hI : Inv hx hm) (ht : 6 * t + 6 ≤ L) (hL : L ≤ 3072) (hn : n + 1101 ≤ 601024) (hk : k + 6606 ≤ 7293034) (kk : xLwK Iny l X b L xs n k t) : xV jL_law X n k (hLw hx hm out) 1104 [(4, .int (Int32.ofNat (6 * t))), (0, .ref 2000), (1, .ref 0), (2, .ref 81), (3, .ref 101)] [] := by
  obtain ⟨hlx, hlm, ⟨fx, hx0⟩, ⟨fm, hm0⟩, hsx⟩ := hShp hx hm hI
  refine xV_aload_n 1105 rfl dL_law_1104 rfl 2 rfl ?_
  refine xV_aload_n 1106 rfl dL_law_1105 rfl 1 rfl ?_
  refine xV_iload 1108 rfl dL_law_1106 0 rfl ?_
  refine xV_iconst (v := 1) 1109 rfl dL_law_1108 (by decide) ?_
  refine xV_iadd 1110 rfl dL_law_1109 ?_
  refine xV_sld 1111 rfl hW dL_law_1110 (xArgI 1 (by decide) ht hL) (xArgJ 1 (by decide) ht hL) ?_
  refine xV_aload_n 1112 rfl dL_law_1111 rfl 1 rfl ?_
  refine xV_iload 1114 rfl dL_law_1112 0 rfl ?_
  refine xV_iconst (v := 2) 1115 rfl dL_law_1114 (by decide) ?_
  refine xV_iadd 1116 rfl dL_law_1115 ?_
  refine xV_sld 1117 rfl hW dL_law_1116 (xArgI 2 (by decide) ht hL) (xArgJ 2 (by decide) ht hL) ?_
  refine xV_aload_n 1118 rfl dL_law_1117 rfl 1 rfl ?_
  refine xV_iload 1120 rfl dL_law_1118 0 rfl ?_
  refine xV_iconst (v := 3) 1121 rfl dL_law_1120 (by decide) ?_
  refine xV_iadd 1122 rfl dL_law_1121 ?_
  refine xV_sld 1123 rfl hW dL_law_1122 (xArgI 3 (by decide) ht hL) (xArgJ 3 (by decide) ht hL) ?_
  obtain ⟨v, hx2, hm2, hc9, hc10, hI2⟩ := hS [(xs (6 * t + 1)), (xs (6 * t + 2)), (xs (6 * t + 3))] hx hm hI (by exact rfl)
  obtain ⟨hlx2, hlm2, ⟨fx2, hx02⟩, ⟨fm2, hm02⟩, hsx2⟩ := hShq hx2 hm2 hI2
  refine xV_pre (J := jL_law) (X := X) (pc := 1123) (h := hx) (h' := hx2) (t := hm.map (xe (fun j => 81 + j)) ++ [.inl (1, 1, .inr (.inl out))]) (rest := []) (av2 := [.int (xs (6 * t + 1)), .int (xs (6 * t + 2)), .int (xs (6 * t + 3))]) 1126 rfl dL_law_1123 hl hc9 m9_plan v9_plan (List.mem_of_getElem? (i := 1016) (by decide +kernel)) (hlx2.trans hlx.symm) rfl (xAt0 hx0) rfl rfl (Nat.le_of_ble_eq_true rfl) (Nat.le_of_ble_eq_true rfl) (Nat.le_of_ble_eq_true rfl) ⟨xz1 hn, xz1 hk⟩ ?_
  refine xV_eq (n' := n) (k' := k) (Nat.add_zero n) (Nat.add_zero k) ?_
  show xV jL_law X n k (hLw hx2 hm out) 1126 [(4, .int (Int32.ofNat (6 * t))), (0, .ref 2000), (1, .ref 0), (2, .ref 81), (3, .ref 101)] [.int v]
  refine xV_aload_n 1127 rfl dL_law_1126 rfl 3 rfl ?_
  refine xV_aload_n 1128 rfl dL_law_1127 rfl 1 rfl ?_
  refine xV_iload 1130 rfl dL_law_1128 0 rfl ?_
  refine xV_iconst (v := 1) 1131 rfl dL_law_1130 (by decide) ?_
  refine xV_iadd 1132 rfl dL_law_1131 ?_
  refine xV_sld 1133 rfl hW dL_law_1132 (xArgI 1 (by decide) ht hL) (xArgJ 1 (by decide) ht hL) ?_
  refine xV_aload_n 1134 rfl dL_law_1133 rfl 1 rfl ?_
  refine xV_iload 1136 rfl dL_law_1134 0 rfl ?_
  refine xV_iconst (v := 2) 1137 rfl dL_law_1136 (by decide) ?_
  refine xV_iadd 1138 rfl dL_law_1137 ?_
  refine xV_sld 1139 rfl hW dL_law_1138 (xArgI 2 (by decide) ht hL) (xArgJ 2 (by decide) ht hL) ?_
  refine xV_aload_n 1140 rfl dL_law_1139 rfl 1 rfl ?_
  refine xV_iload 1142 rfl dL_law_1140 0 rfl ?_
  refine xV_iconst (v := 3) 1143 rfl dL_law_1142 (by decide) ?_
  refine xV_iadd 1144 rfl dL_law_1143 ?_
  refine xV_sld 1145 rfl hW dL_law_1144 (xArgI 3 (by decide) ht hL) (xArgJ 3 (by decide) ht hL) ?_
  refine xV_mid (hx := hx2) (hm := hm) (hm' := hm2) (t := [.inl (1, 1, .inr (.inl out))]) (rest := [.int v]) (av2 := [.int (xs (6 * t + 1)), .int (xs (6 * t + 2)), .int (xs (6 * t + 3))]) 81 hlx2 1148 rfl dL_law_1145 hl hc10 m10_plan v10_plan (List.mem_of_getElem? (i := 1031) (by decide +kernel)) (hlm2.trans hlm.symm) rfl rfl rfl hm0 rfl rfl (Nat.le_of_ble_eq_true rfl) (Nat.le_of_ble_eq_true rfl) (Nat.le_of_ble_eq_true rfl) ⟨xz1 hn, xz1 hk⟩ ?_
  refine xV_eq (n' := n) (k' := k) (Nat.add_zero n) (Nat.add_zero k) ?_
  show xV jL_law X n k (hLw hx2 hm2 out) 1148 [(4, .int (Int32.ofNat (6 * t))), (0, .ref 2000), (1, .ref 0), (2, .ref 81), (3, .ref 101)] [.int v, .int v]
  refine xV_icmp_eq (tgt := 1676) 1151 rfl dL_law_1148 (by decide) (fun _ => ?_) (fun hq => absurd rfl hq)
  exact kk X n k hx2 hm2 out hW hl (by omega) (by omega) hI2
theorem dL_law_1153 : decode cL_law 1153 = .ok (.aload_n 1, 1) := by decide +kernel
theorem dL_law_1154 : decode cL_law 1154 = .ok (.aload_n 0, 1) := by decide +kernel
theorem dL_law_1155 : decode cL_law 1155 = .ok (.iload 4, 2) := by decide +kernel
theorem dL_law_1157 : decode cL_law 1157 = .ok (.iconst 1, 1) := by decide +kernel
theorem dL_law_1158 : decode cL_law 1158 = .ok (.iadd, 1) := by decide +kernel
theorem dL_law_1159 : decode cL_law 1159 = .ok (.iaload, 1) := by decide +kernel
theorem dL_law_1160 : decode cL_law 1160 = .ok (.aload_n 0, 1) := by decide +kernel
theorem dL_law_1161 : decode cL_law 1161 = .ok (.iload 4, 2) := by decide +kernel
theorem dL_law_1163 : decode cL_law 1163 = .ok (.iconst 2, 1) := by decide +kernel
theorem dL_law_1164 : decode cL_law 1164 = .ok (.iadd, 1) := by decide +kernel
theorem dL_law_1165 : decode cL_law 1165 = .ok (.iaload, 1) := by decide +kernel
theorem dL_law_1166 : decode cL_law 1166 = .ok (.aload_n 0, 1) := by decide +kernel
theorem dL_law_1167 : decode cL_law 1167 = .ok (.iload 4, 2) := by decide +kernel
theorem dL_law_1169 : decode cL_law 1169 = .ok (.iconst 3, 1) := by decide +kernel
theorem dL_law_1170 : decode cL_law 1170 = .ok (.iadd, 1) := by decide +kernel
theorem dL_law_1171 : decode cL_law 1171 = .ok (.iaload, 1) := by decide +kernel
theorem dL_law_1172 : decode cL_law 1172 = .ok (.invokevirtual 130, 3) := by decide +kernel
theorem dL_law_1175 : decode cL_law 1175 = .ok (.aload_n 2, 1) := by decide +kernel
theorem dL_law_1176 : decode cL_law 1176 = .ok (.aload_n 0, 1) := by decide +kernel
theorem dL_law_1177 : decode cL_law 1177 = .ok (.iload 4, 2) := by decide +kernel
theorem dL_law_1179 : decode cL_law 1179 = .ok (.iconst 1, 1) := by decide +kernel
theorem dL_law_1180 : decode cL_law 1180 = .ok (.iadd, 1) := by decide +kernel
theorem dL_law_1181 : decode cL_law 1181 = .ok (.iaload, 1) := by decide +kernel
theorem dL_law_1182 : decode cL_law 1182 = .ok (.aload_n 0, 1) := by decide +kernel
theorem dL_law_1183 : decode cL_law 1183 = .ok (.iload 4, 2) := by decide +kernel
theorem dL_law_1185 : decode cL_law 1185 = .ok (.iconst 2, 1) := by decide +kernel
theorem dL_law_1186 : decode cL_law 1186 = .ok (.iadd, 1) := by decide +kernel
theorem dL_law_1187 : decode cL_law 1187 = .ok (.iaload, 1) := by decide +kernel
theorem dL_law_1188 : decode cL_law 1188 = .ok (.aload_n 0, 1) := by decide +kernel
theorem dL_law_1189 : decode cL_law 1189 = .ok (.iload 4, 2) := by decide +kernel
theorem dL_law_1191 : decode cL_law 1191 = .ok (.iconst 3, 1) := by decide +kernel
theorem dL_law_1192 : decode cL_law 1192 = .ok (.iadd, 1) := by decide +kernel
theorem dL_law_1193 : decode cL_law 1193 = .ok (.iaload, 1) := by decide +kernel
theorem dL_law_1194 : decode cL_law 1194 = .ok (.invokevirtual 133, 3) := by decide +kernel
theorem dL_law_1197 : decode cL_law 1197 = .ok (.if_icmp .eq 479, 3) := by decide +kernel
theorem Lw_entry {Inv Iny : xHp → xHp → Prop} {l : Launch} {X : xX} {b L : Nat} {xs : Nat → Int32} {n k t : Nat} {hx hm : xHp} {out : Nat → Int64} (hShp : ∀ hx hm, Inv hx hm → xShp hx hm) (hShq : ∀ hx hm, Iny hx hm → xShp hx hm) (hS : xSt Inv Iny l yX9_entry yX10_entry j9_entry j10_entry (fun as => as.length = 3)) (hW : xLw X b L xs) (hl : X.1.2.1 = l) (hI : Inv hx hm) (ht : 6 * t + 6 ≤ L) (hL : L ≤ 3072) (hn : n + 1101 ≤ 601024) (hk : k + 6606 ≤ 7293034) (kk : xLwK Iny l X b L xs n k t) : xV jL_law X n k (hLw hx hm out) 1153 [(4, .int (Int32.ofNat (6 * t))), (0, .ref 2000), (1, .ref 0), (2, .ref 81), (3, .ref 101)] [] := by
  obtain ⟨hlx, hlm, ⟨fx, hx0⟩, ⟨fm, hm0⟩, hsx⟩ := hShp hx hm hI
  refine xV_aload_n 1154 rfl dL_law_1153 rfl 2 rfl ?_
  refine xV_aload_n 1155 rfl dL_law_1154 rfl 1 rfl ?_
  refine xV_iload 1157 rfl dL_law_1155 0 rfl ?_
  refine xV_iconst (v := 1) 1158 rfl dL_law_1157 (by decide) ?_
  refine xV_iadd 1159 rfl dL_law_1158 ?_
  refine xV_sld 1160 rfl hW dL_law_1159 (xArgI 1 (by decide) ht hL) (xArgJ 1 (by decide) ht hL) ?_
  refine xV_aload_n 1161 rfl dL_law_1160 rfl 1 rfl ?_
  refine xV_iload 1163 rfl dL_law_1161 0 rfl ?_
  refine xV_iconst (v := 2) 1164 rfl dL_law_1163 (by decide) ?_
  refine xV_iadd 1165 rfl dL_law_1164 ?_
  refine xV_sld 1166 rfl hW dL_law_1165 (xArgI 2 (by decide) ht hL) (xArgJ 2 (by decide) ht hL) ?_
  refine xV_aload_n 1167 rfl dL_law_1166 rfl 1 rfl ?_
  refine xV_iload 1169 rfl dL_law_1167 0 rfl ?_
  refine xV_iconst (v := 3) 1170 rfl dL_law_1169 (by decide) ?_
  refine xV_iadd 1171 rfl dL_law_1170 ?_
  refine xV_sld 1172 rfl hW dL_law_1171 (xArgI 3 (by decide) ht hL) (xArgJ 3 (by decide) ht hL) ?_
  obtain ⟨v, hx2, hm2, hc9, hc10, hI2⟩ := hS [(xs (6 * t + 1)), (xs (6 * t + 2)), (xs (6 * t + 3))] hx hm hI (by exact rfl)
  obtain ⟨hlx2, hlm2, ⟨fx2, hx02⟩, ⟨fm2, hm02⟩, hsx2⟩ := hShq hx2 hm2 hI2
  refine xV_pre (J := jL_law) (X := X) (pc := 1172) (h := hx) (h' := hx2) (t := hm.map (xe (fun j => 81 + j)) ++ [.inl (1, 1, .inr (.inl out))]) (rest := []) (av2 := [.int (xs (6 * t + 1)), .int (xs (6 * t + 2)), .int (xs (6 * t + 3))]) 1175 rfl dL_law_1172 hl hc9 m9_entry v9_entry (List.mem_of_getElem? (i := 1047) (by decide +kernel)) (hlx2.trans hlx.symm) rfl (xAt0 hx0) rfl rfl (Nat.le_of_ble_eq_true rfl) (Nat.le_of_ble_eq_true rfl) (Nat.le_of_ble_eq_true rfl) ⟨xz1 hn, xz1 hk⟩ ?_
  refine xV_eq (n' := n) (k' := k) (Nat.add_zero n) (Nat.add_zero k) ?_
  show xV jL_law X n k (hLw hx2 hm out) 1175 [(4, .int (Int32.ofNat (6 * t))), (0, .ref 2000), (1, .ref 0), (2, .ref 81), (3, .ref 101)] [.int v]
  refine xV_aload_n 1176 rfl dL_law_1175 rfl 3 rfl ?_
  refine xV_aload_n 1177 rfl dL_law_1176 rfl 1 rfl ?_
  refine xV_iload 1179 rfl dL_law_1177 0 rfl ?_
  refine xV_iconst (v := 1) 1180 rfl dL_law_1179 (by decide) ?_
  refine xV_iadd 1181 rfl dL_law_1180 ?_
  refine xV_sld 1182 rfl hW dL_law_1181 (xArgI 1 (by decide) ht hL) (xArgJ 1 (by decide) ht hL) ?_
  refine xV_aload_n 1183 rfl dL_law_1182 rfl 1 rfl ?_
  refine xV_iload 1185 rfl dL_law_1183 0 rfl ?_
  refine xV_iconst (v := 2) 1186 rfl dL_law_1185 (by decide) ?_
  refine xV_iadd 1187 rfl dL_law_1186 ?_
  refine xV_sld 1188 rfl hW dL_law_1187 (xArgI 2 (by decide) ht hL) (xArgJ 2 (by decide) ht hL) ?_
  refine xV_aload_n 1189 rfl dL_law_1188 rfl 1 rfl ?_
  refine xV_iload 1191 rfl dL_law_1189 0 rfl ?_
  refine xV_iconst (v := 3) 1192 rfl dL_law_1191 (by decide) ?_
  refine xV_iadd 1193 rfl dL_law_1192 ?_
  refine xV_sld 1194 rfl hW dL_law_1193 (xArgI 3 (by decide) ht hL) (xArgJ 3 (by decide) ht hL) ?_
  refine xV_mid (hx := hx2) (hm := hm) (hm' := hm2) (t := [.inl (1, 1, .inr (.inl out))]) (rest := [.int v]) (av2 := [.int (xs (6 * t + 1)), .int (xs (6 * t + 2)), .int (xs (6 * t + 3))]) 81 hlx2 1197 rfl dL_law_1194 hl hc10 m10_entry v10_entry (List.mem_of_getElem? (i := 1054) (by decide +kernel)) (hlm2.trans hlm.symm) rfl rfl rfl hm0 rfl rfl (Nat.le_of_ble_eq_true rfl) (Nat.le_of_ble_eq_true rfl) (Nat.le_of_ble_eq_true rfl) ⟨xz1 hn, xz1 hk⟩ ?_
  refine xV_eq (n' := n) (k' := k) (Nat.add_zero n) (Nat.add_zero k) ?_
  show xV jL_law X n k (hLw hx2 hm2 out) 1197 [(4, .int (Int32.ofNat (6 * t))), (0, .ref 2000), (1, .ref 0), (2, .ref 81), (3, .ref 101)] [.int v, .int v]
  refine xV_icmp_eq (tgt := 1676) 1200 rfl dL_law_1197 (by decide) (fun _ => ?_) (fun hq => absurd rfl hq)
  exact kk X n k hx2 hm2 out hW hl (by omega) (by omega) hI2
theorem dL_law_1202 : decode cL_law 1202 = .ok (.aload_n 1, 1) := by decide +kernel
theorem dL_law_1203 : decode cL_law 1203 = .ok (.aload_n 0, 1) := by decide +kernel
theorem dL_law_1204 : decode cL_law 1204 = .ok (.iload 4, 2) := by decide +kernel
theorem dL_law_1206 : decode cL_law 1206 = .ok (.iconst 1, 1) := by decide +kernel
theorem dL_law_1207 : decode cL_law 1207 = .ok (.iadd, 1) := by decide +kernel
theorem dL_law_1208 : decode cL_law 1208 = .ok (.iaload, 1) := by decide +kernel
theorem dL_law_1209 : decode cL_law 1209 = .ok (.aload_n 0, 1) := by decide +kernel
theorem dL_law_1210 : decode cL_law 1210 = .ok (.iload 4, 2) := by decide +kernel
theorem dL_law_1212 : decode cL_law 1212 = .ok (.iconst 2, 1) := by decide +kernel
theorem dL_law_1213 : decode cL_law 1213 = .ok (.iadd, 1) := by decide +kernel
theorem dL_law_1214 : decode cL_law 1214 = .ok (.iaload, 1) := by decide +kernel
theorem dL_law_1215 : decode cL_law 1215 = .ok (.invokevirtual 134, 3) := by decide +kernel
theorem dL_law_1218 : decode cL_law 1218 = .ok (.aload_n 2, 1) := by decide +kernel
theorem dL_law_1219 : decode cL_law 1219 = .ok (.aload_n 0, 1) := by decide +kernel
theorem dL_law_1220 : decode cL_law 1220 = .ok (.iload 4, 2) := by decide +kernel
theorem dL_law_1222 : decode cL_law 1222 = .ok (.iconst 1, 1) := by decide +kernel
theorem dL_law_1223 : decode cL_law 1223 = .ok (.iadd, 1) := by decide +kernel
theorem dL_law_1224 : decode cL_law 1224 = .ok (.iaload, 1) := by decide +kernel
theorem dL_law_1225 : decode cL_law 1225 = .ok (.aload_n 0, 1) := by decide +kernel
theorem dL_law_1226 : decode cL_law 1226 = .ok (.iload 4, 2) := by decide +kernel
theorem dL_law_1228 : decode cL_law 1228 = .ok (.iconst 2, 1) := by decide +kernel
theorem dL_law_1229 : decode cL_law 1229 = .ok (.iadd, 1) := by decide +kernel
theorem dL_law_1230 : decode cL_law 1230 = .ok (.iaload, 1) := by decide +kernel
theorem dL_law_1231 : decode cL_law 1231 = .ok (.invokevirtual 137, 3) := by decide +kernel
theorem dL_law_1234 : decode cL_law 1234 = .ok (.if_icmp .eq 442, 3) := by decide +kernel
theorem Lw_hold {Inv Iny : xHp → xHp → Prop} {l : Launch} {X : xX} {b L : Nat} {xs : Nat → Int32} {n k t : Nat} {hx hm : xHp} {out : Nat → Int64} (hShp : ∀ hx hm, Inv hx hm → xShp hx hm) (hShq : ∀ hx hm, Iny hx hm → xShp hx hm) (hS : xSt Inv Iny l yX9_hold yX10_hold j9_hold j10_hold (fun as => as.length = 2)) (hW : xLw X b L xs) (hl : X.1.2.1 = l) (hI : Inv hx hm) (ht : 6 * t + 6 ≤ L) (hL : L ≤ 3072) (hn : n + 1101 ≤ 601024) (hk : k + 6606 ≤ 7293034) (kk : xLwK Iny l X b L xs n k t) : xV jL_law X n k (hLw hx hm out) 1202 [(4, .int (Int32.ofNat (6 * t))), (0, .ref 2000), (1, .ref 0), (2, .ref 81), (3, .ref 101)] [] := by
  obtain ⟨hlx, hlm, ⟨fx, hx0⟩, ⟨fm, hm0⟩, hsx⟩ := hShp hx hm hI
  refine xV_aload_n 1203 rfl dL_law_1202 rfl 2 rfl ?_
  refine xV_aload_n 1204 rfl dL_law_1203 rfl 1 rfl ?_
  refine xV_iload 1206 rfl dL_law_1204 0 rfl ?_
  refine xV_iconst (v := 1) 1207 rfl dL_law_1206 (by decide) ?_
  refine xV_iadd 1208 rfl dL_law_1207 ?_
  refine xV_sld 1209 rfl hW dL_law_1208 (xArgI 1 (by decide) ht hL) (xArgJ 1 (by decide) ht hL) ?_
  refine xV_aload_n 1210 rfl dL_law_1209 rfl 1 rfl ?_
  refine xV_iload 1212 rfl dL_law_1210 0 rfl ?_
  refine xV_iconst (v := 2) 1213 rfl dL_law_1212 (by decide) ?_
  refine xV_iadd 1214 rfl dL_law_1213 ?_
  refine xV_sld 1215 rfl hW dL_law_1214 (xArgI 2 (by decide) ht hL) (xArgJ 2 (by decide) ht hL) ?_
  obtain ⟨v, hx2, hm2, hc9, hc10, hI2⟩ := hS [(xs (6 * t + 1)), (xs (6 * t + 2))] hx hm hI (by exact rfl)
  obtain ⟨hlx2, hlm2, ⟨fx2, hx02⟩, ⟨fm2, hm02⟩, hsx2⟩ := hShq hx2 hm2 hI2
  refine xV_pre (J := jL_law) (X := X) (pc := 1215) (h := hx) (h' := hx2) (t := hm.map (xe (fun j => 81 + j)) ++ [.inl (1, 1, .inr (.inl out))]) (rest := []) (av2 := [.int (xs (6 * t + 1)), .int (xs (6 * t + 2))]) 1218 rfl dL_law_1215 hl hc9 m9_hold v9_hold (List.mem_of_getElem? (i := 1062) (by decide +kernel)) (hlx2.trans hlx.symm) rfl (xAt0 hx0) rfl rfl (Nat.le_of_ble_eq_true rfl) (Nat.le_of_ble_eq_true rfl) (Nat.le_of_ble_eq_true rfl) ⟨xz1 hn, xz1 hk⟩ ?_
  refine xV_eq (n' := n) (k' := k) (Nat.add_zero n) (Nat.add_zero k) ?_
  show xV jL_law X n k (hLw hx2 hm out) 1218 [(4, .int (Int32.ofNat (6 * t))), (0, .ref 2000), (1, .ref 0), (2, .ref 81), (3, .ref 101)] [.int v]
  refine xV_aload_n 1219 rfl dL_law_1218 rfl 3 rfl ?_
  refine xV_aload_n 1220 rfl dL_law_1219 rfl 1 rfl ?_
  refine xV_iload 1222 rfl dL_law_1220 0 rfl ?_
  refine xV_iconst (v := 1) 1223 rfl dL_law_1222 (by decide) ?_
  refine xV_iadd 1224 rfl dL_law_1223 ?_
  refine xV_sld 1225 rfl hW dL_law_1224 (xArgI 1 (by decide) ht hL) (xArgJ 1 (by decide) ht hL) ?_
  refine xV_aload_n 1226 rfl dL_law_1225 rfl 1 rfl ?_
  refine xV_iload 1228 rfl dL_law_1226 0 rfl ?_
  refine xV_iconst (v := 2) 1229 rfl dL_law_1228 (by decide) ?_
  refine xV_iadd 1230 rfl dL_law_1229 ?_
  refine xV_sld 1231 rfl hW dL_law_1230 (xArgI 2 (by decide) ht hL) (xArgJ 2 (by decide) ht hL) ?_
  refine xV_mid (hx := hx2) (hm := hm) (hm' := hm2) (t := [.inl (1, 1, .inr (.inl out))]) (rest := [.int v]) (av2 := [.int (xs (6 * t + 1)), .int (xs (6 * t + 2))]) 81 hlx2 1234 rfl dL_law_1231 hl hc10 m10_hold v10_hold (List.mem_of_getElem? (i := 1100) (by decide +kernel)) (hlm2.trans hlm.symm) rfl rfl rfl hm0 rfl rfl (Nat.le_of_ble_eq_true rfl) (Nat.le_of_ble_eq_true rfl) (Nat.le_of_ble_eq_true rfl) ⟨xz1 hn, xz1 hk⟩ ?_
  refine xV_eq (n' := n) (k' := k) (Nat.add_zero n) (Nat.add_zero k) ?_
  show xV jL_law X n k (hLw hx2 hm2 out) 1234 [(4, .int (Int32.ofNat (6 * t))), (0, .ref 2000), (1, .ref 0), (2, .ref 81), (3, .ref 101)] [.int v, .int v]
  refine xV_icmp_eq (tgt := 1676) 1237 rfl dL_law_1234 (by decide) (fun _ => ?_) (fun hq => absurd rfl hq)
  exact kk X n k hx2 hm2 out hW hl (by omega) (by omega) hI2
theorem dL_law_1239 : decode cL_law 1239 = .ok (.aload_n 1, 1) := by decide +kernel
theorem dL_law_1240 : decode cL_law 1240 = .ok (.aload_n 0, 1) := by decide +kernel
theorem dL_law_1241 : decode cL_law 1241 = .ok (.iload 4, 2) := by decide +kernel
theorem dL_law_1243 : decode cL_law 1243 = .ok (.iconst 1, 1) := by decide +kernel
theorem dL_law_1244 : decode cL_law 1244 = .ok (.iadd, 1) := by decide +kernel
theorem dL_law_1245 : decode cL_law 1245 = .ok (.iaload, 1) := by decide +kernel
theorem dL_law_1246 : decode cL_law 1246 = .ok (.invokevirtual 138, 3) := by decide +kernel
theorem dL_law_1249 : decode cL_law 1249 = .ok (.aload_n 2, 1) := by decide +kernel
theorem dL_law_1250 : decode cL_law 1250 = .ok (.aload_n 0, 1) := by decide +kernel
theorem dL_law_1251 : decode cL_law 1251 = .ok (.iload 4, 2) := by decide +kernel
theorem dL_law_1253 : decode cL_law 1253 = .ok (.iconst 1, 1) := by decide +kernel
theorem dL_law_1254 : decode cL_law 1254 = .ok (.iadd, 1) := by decide +kernel
theorem dL_law_1255 : decode cL_law 1255 = .ok (.iaload, 1) := by decide +kernel
theorem dL_law_1256 : decode cL_law 1256 = .ok (.invokevirtual 141, 3) := by decide +kernel
theorem dL_law_1259 : decode cL_law 1259 = .ok (.if_icmp .eq 417, 3) := by decide +kernel
theorem Lw_reply {Inv Iny : xHp → xHp → Prop} {l : Launch} {X : xX} {b L : Nat} {xs : Nat → Int32} {n k t : Nat} {hx hm : xHp} {out : Nat → Int64} (hShp : ∀ hx hm, Inv hx hm → xShp hx hm) (hShq : ∀ hx hm, Iny hx hm → xShp hx hm) (hS : xSt Inv Iny l yX9_reply yX10_reply j9_reply j10_reply (fun as => as.length = 1)) (hW : xLw X b L xs) (hl : X.1.2.1 = l) (hI : Inv hx hm) (ht : 6 * t + 6 ≤ L) (hL : L ≤ 3072) (hn : n + 1101 ≤ 601024) (hk : k + 6606 ≤ 7293034) (kk : xLwK Iny l X b L xs n k t) : xV jL_law X n k (hLw hx hm out) 1239 [(4, .int (Int32.ofNat (6 * t))), (0, .ref 2000), (1, .ref 0), (2, .ref 81), (3, .ref 101)] [] := by
  obtain ⟨hlx, hlm, ⟨fx, hx0⟩, ⟨fm, hm0⟩, hsx⟩ := hShp hx hm hI
  refine xV_aload_n 1240 rfl dL_law_1239 rfl 2 rfl ?_
  refine xV_aload_n 1241 rfl dL_law_1240 rfl 1 rfl ?_
  refine xV_iload 1243 rfl dL_law_1241 0 rfl ?_
  refine xV_iconst (v := 1) 1244 rfl dL_law_1243 (by decide) ?_
  refine xV_iadd 1245 rfl dL_law_1244 ?_
  refine xV_sld 1246 rfl hW dL_law_1245 (xArgI 1 (by decide) ht hL) (xArgJ 1 (by decide) ht hL) ?_
  obtain ⟨v, hx2, hm2, hc9, hc10, hI2⟩ := hS [(xs (6 * t + 1))] hx hm hI (by exact rfl)
  obtain ⟨hlx2, hlm2, ⟨fx2, hx02⟩, ⟨fm2, hm02⟩, hsx2⟩ := hShq hx2 hm2 hI2
  refine xV_pre (J := jL_law) (X := X) (pc := 1246) (h := hx) (h' := hx2) (t := hm.map (xe (fun j => 81 + j)) ++ [.inl (1, 1, .inr (.inl out))]) (rest := []) (av2 := [.int (xs (6 * t + 1))]) 1249 rfl dL_law_1246 hl hc9 m9_reply v9_reply (List.mem_of_getElem? (i := 1129) (by decide +kernel)) (hlx2.trans hlx.symm) rfl (xAt0 hx0) rfl rfl (Nat.le_of_ble_eq_true rfl) (Nat.le_of_ble_eq_true rfl) (Nat.le_of_ble_eq_true rfl) ⟨xz1 hn, xz1 hk⟩ ?_
  refine xV_eq (n' := n) (k' := k) (Nat.add_zero n) (Nat.add_zero k) ?_
  show xV jL_law X n k (hLw hx2 hm out) 1249 [(4, .int (Int32.ofNat (6 * t))), (0, .ref 2000), (1, .ref 0), (2, .ref 81), (3, .ref 101)] [.int v]
  refine xV_aload_n 1250 rfl dL_law_1249 rfl 3 rfl ?_
  refine xV_aload_n 1251 rfl dL_law_1250 rfl 1 rfl ?_
  refine xV_iload 1253 rfl dL_law_1251 0 rfl ?_
  refine xV_iconst (v := 1) 1254 rfl dL_law_1253 (by decide) ?_
  refine xV_iadd 1255 rfl dL_law_1254 ?_
  refine xV_sld 1256 rfl hW dL_law_1255 (xArgI 1 (by decide) ht hL) (xArgJ 1 (by decide) ht hL) ?_
  refine xV_mid (hx := hx2) (hm := hm) (hm' := hm2) (t := [.inl (1, 1, .inr (.inl out))]) (rest := [.int v]) (av2 := [.int (xs (6 * t + 1))]) 81 hlx2 1259 rfl dL_law_1256 hl hc10 m10_reply v10_reply (List.mem_of_getElem? (i := 1133) (by decide +kernel)) (hlm2.trans hlm.symm) rfl rfl rfl hm0 rfl rfl (Nat.le_of_ble_eq_true rfl) (Nat.le_of_ble_eq_true rfl) (Nat.le_of_ble_eq_true rfl) ⟨xz1 hn, xz1 hk⟩ ?_
  refine xV_eq (n' := n) (k' := k) (Nat.add_zero n) (Nat.add_zero k) ?_
  show xV jL_law X n k (hLw hx2 hm2 out) 1259 [(4, .int (Int32.ofNat (6 * t))), (0, .ref 2000), (1, .ref 0), (2, .ref 81), (3, .ref 101)] [.int v, .int v]
  refine xV_icmp_eq (tgt := 1676) 1262 rfl dL_law_1259 (by decide) (fun _ => ?_) (fun hq => absurd rfl hq)
  exact kk X n k hx2 hm2 out hW hl (by omega) (by omega) hI2
theorem dL_law_1264 : decode cL_law 1264 = .ok (.aload_n 1, 1) := by decide +kernel
theorem dL_law_1265 : decode cL_law 1265 = .ok (.invokevirtual 142, 3) := by decide +kernel
theorem dL_law_1268 : decode cL_law 1268 = .ok (.aload_n 2, 1) := by decide +kernel
theorem dL_law_1269 : decode cL_law 1269 = .ok (.invokevirtual 145, 3) := by decide +kernel
theorem dL_law_1272 : decode cL_law 1272 = .ok (.if_icmp .eq 404, 3) := by decide +kernel
theorem Lw_meet {Inv Iny : xHp → xHp → Prop} {l : Launch} {X : xX} {b L : Nat} {xs : Nat → Int32} {n k t : Nat} {hx hm : xHp} {out : Nat → Int64} (hShp : ∀ hx hm, Inv hx hm → xShp hx hm) (hShq : ∀ hx hm, Iny hx hm → xShp hx hm) (hS : xSt Inv Iny l yX9_meet yX10_meet j9_meet j10_meet (fun as => as.length = 0)) (hW : xLw X b L xs) (hl : X.1.2.1 = l) (hI : Inv hx hm) (ht : 6 * t + 6 ≤ L) (hL : L ≤ 3072) (hn : n + 1101 ≤ 601024) (hk : k + 6606 ≤ 7293034) (kk : xLwK Iny l X b L xs n k t) : xV jL_law X n k (hLw hx hm out) 1264 [(4, .int (Int32.ofNat (6 * t))), (0, .ref 2000), (1, .ref 0), (2, .ref 81), (3, .ref 101)] [] := by
  obtain ⟨hlx, hlm, ⟨fx, hx0⟩, ⟨fm, hm0⟩, hsx⟩ := hShp hx hm hI
  refine xV_aload_n 1265 rfl dL_law_1264 rfl 2 rfl ?_
  obtain ⟨v, hx2, hm2, hc9, hc10, hI2⟩ := hS [] hx hm hI (by exact rfl)
  obtain ⟨hlx2, hlm2, ⟨fx2, hx02⟩, ⟨fm2, hm02⟩, hsx2⟩ := hShq hx2 hm2 hI2
  refine xV_pre (J := jL_law) (X := X) (pc := 1265) (h := hx) (h' := hx2) (t := hm.map (xe (fun j => 81 + j)) ++ [.inl (1, 1, .inr (.inl out))]) (rest := []) (av2 := []) 1268 rfl dL_law_1265 hl hc9 m9_meet v9_meet (List.mem_of_getElem? (i := 1137) (by decide +kernel)) (hlx2.trans hlx.symm) rfl (xAt0 hx0) rfl rfl (Nat.le_of_ble_eq_true rfl) (Nat.le_of_ble_eq_true rfl) (Nat.le_of_ble_eq_true rfl) ⟨xz1 hn, xz1 hk⟩ ?_
  refine xV_eq (n' := n) (k' := k) (Nat.add_zero n) (Nat.add_zero k) ?_
  show xV jL_law X n k (hLw hx2 hm out) 1268 [(4, .int (Int32.ofNat (6 * t))), (0, .ref 2000), (1, .ref 0), (2, .ref 81), (3, .ref 101)] [.int v]
  refine xV_aload_n 1269 rfl dL_law_1268 rfl 3 rfl ?_
  refine xV_mid (hx := hx2) (hm := hm) (hm' := hm2) (t := [.inl (1, 1, .inr (.inl out))]) (rest := [.int v]) (av2 := []) 81 hlx2 1272 rfl dL_law_1269 hl hc10 m10_meet v10_meet (List.mem_of_getElem? (i := 1142) (by decide +kernel)) (hlm2.trans hlm.symm) rfl rfl rfl hm0 rfl rfl (Nat.le_of_ble_eq_true rfl) (Nat.le_of_ble_eq_true rfl) (Nat.le_of_ble_eq_true rfl) ⟨xz1 hn, xz1 hk⟩ ?_
  refine xV_eq (n' := n) (k' := k) (Nat.add_zero n) (Nat.add_zero k) ?_
  show xV jL_law X n k (hLw hx2 hm2 out) 1272 [(4, .int (Int32.ofNat (6 * t))), (0, .ref 2000), (1, .ref 0), (2, .ref 81), (3, .ref 101)] [.int v, .int v]
  refine xV_icmp_eq (tgt := 1676) 1275 rfl dL_law_1272 (by decide) (fun _ => ?_) (fun hq => absurd rfl hq)
  exact kk X n k hx2 hm2 out hW hl (by omega) (by omega) hI2
theorem dL_law_1277 : decode cL_law 1277 = .ok (.aload_n 1, 1) := by decide +kernel
theorem dL_law_1278 : decode cL_law 1278 = .ok (.aload_n 0, 1) := by decide +kernel
theorem dL_law_1279 : decode cL_law 1279 = .ok (.iload 4, 2) := by decide +kernel
theorem dL_law_1281 : decode cL_law 1281 = .ok (.iconst 1, 1) := by decide +kernel
theorem dL_law_1282 : decode cL_law 1282 = .ok (.iadd, 1) := by decide +kernel
theorem dL_law_1283 : decode cL_law 1283 = .ok (.iaload, 1) := by decide +kernel
theorem dL_law_1284 : decode cL_law 1284 = .ok (.aload_n 0, 1) := by decide +kernel
theorem dL_law_1285 : decode cL_law 1285 = .ok (.iload 4, 2) := by decide +kernel
theorem dL_law_1287 : decode cL_law 1287 = .ok (.iconst 2, 1) := by decide +kernel
theorem dL_law_1288 : decode cL_law 1288 = .ok (.iadd, 1) := by decide +kernel
theorem dL_law_1289 : decode cL_law 1289 = .ok (.iaload, 1) := by decide +kernel
theorem dL_law_1290 : decode cL_law 1290 = .ok (.invokevirtual 146, 3) := by decide +kernel
theorem dL_law_1293 : decode cL_law 1293 = .ok (.aload_n 2, 1) := by decide +kernel
theorem dL_law_1294 : decode cL_law 1294 = .ok (.aload_n 0, 1) := by decide +kernel
theorem dL_law_1295 : decode cL_law 1295 = .ok (.iload 4, 2) := by decide +kernel
theorem dL_law_1297 : decode cL_law 1297 = .ok (.iconst 1, 1) := by decide +kernel
theorem dL_law_1298 : decode cL_law 1298 = .ok (.iadd, 1) := by decide +kernel
theorem dL_law_1299 : decode cL_law 1299 = .ok (.iaload, 1) := by decide +kernel
theorem dL_law_1300 : decode cL_law 1300 = .ok (.aload_n 0, 1) := by decide +kernel
theorem dL_law_1301 : decode cL_law 1301 = .ok (.iload 4, 2) := by decide +kernel
theorem dL_law_1303 : decode cL_law 1303 = .ok (.iconst 2, 1) := by decide +kernel
theorem dL_law_1304 : decode cL_law 1304 = .ok (.iadd, 1) := by decide +kernel
theorem dL_law_1305 : decode cL_law 1305 = .ok (.iaload, 1) := by decide +kernel
theorem dL_law_1306 : decode cL_law 1306 = .ok (.invokevirtual 149, 3) := by decide +kernel
theorem dL_law_1309 : decode cL_law 1309 = .ok (.if_icmp .eq 367, 3) := by decide +kernel
theorem Lw_evenHold {Inv Iny : xHp → xHp → Prop} {l : Launch} {X : xX} {b L : Nat} {xs : Nat → Int32} {n k t : Nat} {hx hm : xHp} {out : Nat → Int64} (hShp : ∀ hx hm, Inv hx hm → xShp hx hm) (hShq : ∀ hx hm, Iny hx hm → xShp hx hm) (hS : xSt Inv Iny l yX9_evenHold yX10_evenHold j9_evenHold j10_evenHold (fun as => as.length = 2)) (hW : xLw X b L xs) (hl : X.1.2.1 = l) (hI : Inv hx hm) (ht : 6 * t + 6 ≤ L) (hL : L ≤ 3072) (hn : n + 1101 ≤ 601024) (hk : k + 6606 ≤ 7293034) (kk : xLwK Iny l X b L xs n k t) : xV jL_law X n k (hLw hx hm out) 1277 [(4, .int (Int32.ofNat (6 * t))), (0, .ref 2000), (1, .ref 0), (2, .ref 81), (3, .ref 101)] [] := by
  obtain ⟨hlx, hlm, ⟨fx, hx0⟩, ⟨fm, hm0⟩, hsx⟩ := hShp hx hm hI
  refine xV_aload_n 1278 rfl dL_law_1277 rfl 2 rfl ?_
  refine xV_aload_n 1279 rfl dL_law_1278 rfl 1 rfl ?_
  refine xV_iload 1281 rfl dL_law_1279 0 rfl ?_
  refine xV_iconst (v := 1) 1282 rfl dL_law_1281 (by decide) ?_
  refine xV_iadd 1283 rfl dL_law_1282 ?_
  refine xV_sld 1284 rfl hW dL_law_1283 (xArgI 1 (by decide) ht hL) (xArgJ 1 (by decide) ht hL) ?_
  refine xV_aload_n 1285 rfl dL_law_1284 rfl 1 rfl ?_
  refine xV_iload 1287 rfl dL_law_1285 0 rfl ?_
  refine xV_iconst (v := 2) 1288 rfl dL_law_1287 (by decide) ?_
  refine xV_iadd 1289 rfl dL_law_1288 ?_
  refine xV_sld 1290 rfl hW dL_law_1289 (xArgI 2 (by decide) ht hL) (xArgJ 2 (by decide) ht hL) ?_
  obtain ⟨v, hx2, hm2, hc9, hc10, hI2⟩ := hS [(xs (6 * t + 1)), (xs (6 * t + 2))] hx hm hI (by exact rfl)
  obtain ⟨hlx2, hlm2, ⟨fx2, hx02⟩, ⟨fm2, hm02⟩, hsx2⟩ := hShq hx2 hm2 hI2
  refine xV_pre (J := jL_law) (X := X) (pc := 1290) (h := hx) (h' := hx2) (t := hm.map (xe (fun j => 81 + j)) ++ [.inl (1, 1, .inr (.inl out))]) (rest := []) (av2 := [.int (xs (6 * t + 1)), .int (xs (6 * t + 2))]) 1293 rfl dL_law_1290 hl hc9 m9_evenHold v9_evenHold (List.mem_of_getElem? (i := 1146) (by decide +kernel)) (hlx2.trans hlx.symm) rfl (xAt0 hx0) rfl rfl (Nat.le_of_ble_eq_true rfl) (Nat.le_of_ble_eq_true rfl) (Nat.le_of_ble_eq_true rfl) ⟨xz1 hn, xz1 hk⟩ ?_
  refine xV_eq (n' := n) (k' := k) (Nat.add_zero n) (Nat.add_zero k) ?_
  show xV jL_law X n k (hLw hx2 hm out) 1293 [(4, .int (Int32.ofNat (6 * t))), (0, .ref 2000), (1, .ref 0), (2, .ref 81), (3, .ref 101)] [.int v]
  refine xV_aload_n 1294 rfl dL_law_1293 rfl 3 rfl ?_
  refine xV_aload_n 1295 rfl dL_law_1294 rfl 1 rfl ?_
  refine xV_iload 1297 rfl dL_law_1295 0 rfl ?_
  refine xV_iconst (v := 1) 1298 rfl dL_law_1297 (by decide) ?_
  refine xV_iadd 1299 rfl dL_law_1298 ?_
  refine xV_sld 1300 rfl hW dL_law_1299 (xArgI 1 (by decide) ht hL) (xArgJ 1 (by decide) ht hL) ?_
  refine xV_aload_n 1301 rfl dL_law_1300 rfl 1 rfl ?_
  refine xV_iload 1303 rfl dL_law_1301 0 rfl ?_
  refine xV_iconst (v := 2) 1304 rfl dL_law_1303 (by decide) ?_
  refine xV_iadd 1305 rfl dL_law_1304 ?_
  refine xV_sld 1306 rfl hW dL_law_1305 (xArgI 2 (by decide) ht hL) (xArgJ 2 (by decide) ht hL) ?_
  refine xV_mid (hx := hx2) (hm := hm) (hm' := hm2) (t := [.inl (1, 1, .inr (.inl out))]) (rest := [.int v]) (av2 := [.int (xs (6 * t + 1)), .int (xs (6 * t + 2))]) 81 hlx2 1309 rfl dL_law_1306 hl hc10 m10_evenHold v10_evenHold (List.mem_of_getElem? (i := 1162) (by decide +kernel)) (hlm2.trans hlm.symm) rfl rfl rfl hm0 rfl rfl (Nat.le_of_ble_eq_true rfl) (Nat.le_of_ble_eq_true rfl) (Nat.le_of_ble_eq_true rfl) ⟨xz1 hn, xz1 hk⟩ ?_
  refine xV_eq (n' := n) (k' := k) (Nat.add_zero n) (Nat.add_zero k) ?_
  show xV jL_law X n k (hLw hx2 hm2 out) 1309 [(4, .int (Int32.ofNat (6 * t))), (0, .ref 2000), (1, .ref 0), (2, .ref 81), (3, .ref 101)] [.int v, .int v]
  refine xV_icmp_eq (tgt := 1676) 1312 rfl dL_law_1309 (by decide) (fun _ => ?_) (fun hq => absurd rfl hq)
  exact kk X n k hx2 hm2 out hW hl (by omega) (by omega) hI2
theorem dL_law_1314 : decode cL_law 1314 = .ok (.aload_n 1, 1) := by decide +kernel
theorem dL_law_1315 : decode cL_law 1315 = .ok (.aload_n 0, 1) := by decide +kernel
theorem dL_law_1316 : decode cL_law 1316 = .ok (.iload 4, 2) := by decide +kernel
theorem dL_law_1318 : decode cL_law 1318 = .ok (.iconst 1, 1) := by decide +kernel
theorem dL_law_1319 : decode cL_law 1319 = .ok (.iadd, 1) := by decide +kernel
theorem dL_law_1320 : decode cL_law 1320 = .ok (.iaload, 1) := by decide +kernel
theorem dL_law_1321 : decode cL_law 1321 = .ok (.aload_n 0, 1) := by decide +kernel
theorem dL_law_1322 : decode cL_law 1322 = .ok (.iload 4, 2) := by decide +kernel
theorem dL_law_1324 : decode cL_law 1324 = .ok (.iconst 2, 1) := by decide +kernel
theorem dL_law_1325 : decode cL_law 1325 = .ok (.iadd, 1) := by decide +kernel
theorem dL_law_1326 : decode cL_law 1326 = .ok (.iaload, 1) := by decide +kernel
theorem dL_law_1327 : decode cL_law 1327 = .ok (.aload_n 0, 1) := by decide +kernel
theorem dL_law_1328 : decode cL_law 1328 = .ok (.iload 4, 2) := by decide +kernel
theorem dL_law_1330 : decode cL_law 1330 = .ok (.iconst 3, 1) := by decide +kernel
theorem dL_law_1331 : decode cL_law 1331 = .ok (.iadd, 1) := by decide +kernel
theorem dL_law_1332 : decode cL_law 1332 = .ok (.iaload, 1) := by decide +kernel
theorem dL_law_1333 : decode cL_law 1333 = .ok (.invokevirtual 150, 3) := by decide +kernel
theorem dL_law_1336 : decode cL_law 1336 = .ok (.aload_n 2, 1) := by decide +kernel
theorem dL_law_1337 : decode cL_law 1337 = .ok (.aload_n 0, 1) := by decide +kernel
theorem dL_law_1338 : decode cL_law 1338 = .ok (.iload 4, 2) := by decide +kernel
theorem dL_law_1340 : decode cL_law 1340 = .ok (.iconst 1, 1) := by decide +kernel
theorem dL_law_1341 : decode cL_law 1341 = .ok (.iadd, 1) := by decide +kernel
theorem dL_law_1342 : decode cL_law 1342 = .ok (.iaload, 1) := by decide +kernel
theorem dL_law_1343 : decode cL_law 1343 = .ok (.aload_n 0, 1) := by decide +kernel
theorem dL_law_1344 : decode cL_law 1344 = .ok (.iload 4, 2) := by decide +kernel
theorem dL_law_1346 : decode cL_law 1346 = .ok (.iconst 2, 1) := by decide +kernel
theorem dL_law_1347 : decode cL_law 1347 = .ok (.iadd, 1) := by decide +kernel
theorem dL_law_1348 : decode cL_law 1348 = .ok (.iaload, 1) := by decide +kernel
theorem dL_law_1349 : decode cL_law 1349 = .ok (.aload_n 0, 1) := by decide +kernel
theorem dL_law_1350 : decode cL_law 1350 = .ok (.iload 4, 2) := by decide +kernel
theorem dL_law_1352 : decode cL_law 1352 = .ok (.iconst 3, 1) := by decide +kernel
theorem dL_law_1353 : decode cL_law 1353 = .ok (.iadd, 1) := by decide +kernel
theorem dL_law_1354 : decode cL_law 1354 = .ok (.iaload, 1) := by decide +kernel
theorem dL_law_1355 : decode cL_law 1355 = .ok (.invokevirtual 153, 3) := by decide +kernel
theorem dL_law_1358 : decode cL_law 1358 = .ok (.if_icmp .eq 318, 3) := by decide +kernel
theorem Lw_evenShare {Inv Iny : xHp → xHp → Prop} {l : Launch} {X : xX} {b L : Nat} {xs : Nat → Int32} {n k t : Nat} {hx hm : xHp} {out : Nat → Int64} (hShp : ∀ hx hm, Inv hx hm → xShp hx hm) (hShq : ∀ hx hm, Iny hx hm → xShp hx hm) (hS : xSt Inv Iny l yX9_evenShare yX10_evenShare j9_evenShare j10_evenShare (fun as => as.length = 3)) (hW : xLw X b L xs) (hl : X.1.2.1 = l) (hI : Inv hx hm) (ht : 6 * t + 6 ≤ L) (hL : L ≤ 3072) (hn : n + 1101 ≤ 601024) (hk : k + 6606 ≤ 7293034) (kk : xLwK Iny l X b L xs n k t) : xV jL_law X n k (hLw hx hm out) 1314 [(4, .int (Int32.ofNat (6 * t))), (0, .ref 2000), (1, .ref 0), (2, .ref 81), (3, .ref 101)] [] := by
  obtain ⟨hlx, hlm, ⟨fx, hx0⟩, ⟨fm, hm0⟩, hsx⟩ := hShp hx hm hI
  refine xV_aload_n 1315 rfl dL_law_1314 rfl 2 rfl ?_
  refine xV_aload_n 1316 rfl dL_law_1315 rfl 1 rfl ?_
  refine xV_iload 1318 rfl dL_law_1316 0 rfl ?_
  refine xV_iconst (v := 1) 1319 rfl dL_law_1318 (by decide) ?_
  refine xV_iadd 1320 rfl dL_law_1319 ?_
  refine xV_sld 1321 rfl hW dL_law_1320 (xArgI 1 (by decide) ht hL) (xArgJ 1 (by decide) ht hL) ?_
  refine xV_aload_n 1322 rfl dL_law_1321 rfl 1 rfl ?_
  refine xV_iload 1324 rfl dL_law_1322 0 rfl ?_
  refine xV_iconst (v := 2) 1325 rfl dL_law_1324 (by decide) ?_
  refine xV_iadd 1326 rfl dL_law_1325 ?_
  refine xV_sld 1327 rfl hW dL_law_1326 (xArgI 2 (by decide) ht hL) (xArgJ 2 (by decide) ht hL) ?_
  refine xV_aload_n 1328 rfl dL_law_1327 rfl 1 rfl ?_
  refine xV_iload 1330 rfl dL_law_1328 0 rfl ?_
  refine xV_iconst (v := 3) 1331 rfl dL_law_1330 (by decide) ?_
  refine xV_iadd 1332 rfl dL_law_1331 ?_
  refine xV_sld 1333 rfl hW dL_law_1332 (xArgI 3 (by decide) ht hL) (xArgJ 3 (by decide) ht hL) ?_
  obtain ⟨v, hx2, hm2, hc9, hc10, hI2⟩ := hS [(xs (6 * t + 1)), (xs (6 * t + 2)), (xs (6 * t + 3))] hx hm hI (by exact rfl)
  obtain ⟨hlx2, hlm2, ⟨fx2, hx02⟩, ⟨fm2, hm02⟩, hsx2⟩ := hShq hx2 hm2 hI2
  refine xV_pre (J := jL_law) (X := X) (pc := 1333) (h := hx) (h' := hx2) (t := hm.map (xe (fun j => 81 + j)) ++ [.inl (1, 1, .inr (.inl out))]) (rest := []) (av2 := [.int (xs (6 * t + 1)), .int (xs (6 * t + 2)), .int (xs (6 * t + 3))]) 1336 rfl dL_law_1333 hl hc9 m9_evenShare v9_evenShare (List.mem_of_getElem? (i := 1166) (by decide +kernel)) (hlx2.trans hlx.symm) rfl (xAt0 hx0) rfl rfl (Nat.le_of_ble_eq_true rfl) (Nat.le_of_ble_eq_true rfl) (Nat.le_of_ble_eq_true rfl) ⟨xz1 hn, xz1 hk⟩ ?_
  refine xV_eq (n' := n) (k' := k) (Nat.add_zero n) (Nat.add_zero k) ?_
  show xV jL_law X n k (hLw hx2 hm out) 1336 [(4, .int (Int32.ofNat (6 * t))), (0, .ref 2000), (1, .ref 0), (2, .ref 81), (3, .ref 101)] [.int v]
  refine xV_aload_n 1337 rfl dL_law_1336 rfl 3 rfl ?_
  refine xV_aload_n 1338 rfl dL_law_1337 rfl 1 rfl ?_
  refine xV_iload 1340 rfl dL_law_1338 0 rfl ?_
  refine xV_iconst (v := 1) 1341 rfl dL_law_1340 (by decide) ?_
  refine xV_iadd 1342 rfl dL_law_1341 ?_
  refine xV_sld 1343 rfl hW dL_law_1342 (xArgI 1 (by decide) ht hL) (xArgJ 1 (by decide) ht hL) ?_
  refine xV_aload_n 1344 rfl dL_law_1343 rfl 1 rfl ?_
  refine xV_iload 1346 rfl dL_law_1344 0 rfl ?_
  refine xV_iconst (v := 2) 1347 rfl dL_law_1346 (by decide) ?_
  refine xV_iadd 1348 rfl dL_law_1347 ?_
  refine xV_sld 1349 rfl hW dL_law_1348 (xArgI 2 (by decide) ht hL) (xArgJ 2 (by decide) ht hL) ?_
  refine xV_aload_n 1350 rfl dL_law_1349 rfl 1 rfl ?_
  refine xV_iload 1352 rfl dL_law_1350 0 rfl ?_
  refine xV_iconst (v := 3) 1353 rfl dL_law_1352 (by decide) ?_
  refine xV_iadd 1354 rfl dL_law_1353 ?_
  refine xV_sld 1355 rfl hW dL_law_1354 (xArgI 3 (by decide) ht hL) (xArgJ 3 (by decide) ht hL) ?_
  refine xV_mid (hx := hx2) (hm := hm) (hm' := hm2) (t := [.inl (1, 1, .inr (.inl out))]) (rest := [.int v]) (av2 := [.int (xs (6 * t + 1)), .int (xs (6 * t + 2)), .int (xs (6 * t + 3))]) 81 hlx2 1358 rfl dL_law_1355 hl hc10 m10_evenShare v10_evenShare (List.mem_of_getElem? (i := 1170) (by decide +kernel)) (hlm2.trans hlm.symm) rfl rfl rfl hm0 rfl rfl (Nat.le_of_ble_eq_true rfl) (Nat.le_of_ble_eq_true rfl) (Nat.le_of_ble_eq_true rfl) ⟨xz1 hn, xz1 hk⟩ ?_
  refine xV_eq (n' := n) (k' := k) (Nat.add_zero n) (Nat.add_zero k) ?_
  show xV jL_law X n k (hLw hx2 hm2 out) 1358 [(4, .int (Int32.ofNat (6 * t))), (0, .ref 2000), (1, .ref 0), (2, .ref 81), (3, .ref 101)] [.int v, .int v]
  refine xV_icmp_eq (tgt := 1676) 1361 rfl dL_law_1358 (by decide) (fun _ => ?_) (fun hq => absurd rfl hq)
  exact kk X n k hx2 hm2 out hW hl (by omega) (by omega) hI2
theorem dL_law_1363 : decode cL_law 1363 = .ok (.aload_n 1, 1) := by decide +kernel
theorem dL_law_1364 : decode cL_law 1364 = .ok (.aload_n 0, 1) := by decide +kernel
theorem dL_law_1365 : decode cL_law 1365 = .ok (.iload 4, 2) := by decide +kernel
theorem dL_law_1367 : decode cL_law 1367 = .ok (.iconst 1, 1) := by decide +kernel
theorem dL_law_1368 : decode cL_law 1368 = .ok (.iadd, 1) := by decide +kernel
theorem dL_law_1369 : decode cL_law 1369 = .ok (.iaload, 1) := by decide +kernel
theorem dL_law_1370 : decode cL_law 1370 = .ok (.invokevirtual 154, 3) := by decide +kernel
theorem dL_law_1373 : decode cL_law 1373 = .ok (.aload_n 2, 1) := by decide +kernel
theorem dL_law_1374 : decode cL_law 1374 = .ok (.aload_n 0, 1) := by decide +kernel
theorem dL_law_1375 : decode cL_law 1375 = .ok (.iload 4, 2) := by decide +kernel
theorem dL_law_1377 : decode cL_law 1377 = .ok (.iconst 1, 1) := by decide +kernel
theorem dL_law_1378 : decode cL_law 1378 = .ok (.iadd, 1) := by decide +kernel
theorem dL_law_1379 : decode cL_law 1379 = .ok (.iaload, 1) := by decide +kernel
theorem dL_law_1380 : decode cL_law 1380 = .ok (.invokevirtual 157, 3) := by decide +kernel
theorem dL_law_1383 : decode cL_law 1383 = .ok (.if_icmp .eq 293, 3) := by decide +kernel
theorem Lw_both {Inv Iny : xHp → xHp → Prop} {l : Launch} {X : xX} {b L : Nat} {xs : Nat → Int32} {n k t : Nat} {hx hm : xHp} {out : Nat → Int64} (hShp : ∀ hx hm, Inv hx hm → xShp hx hm) (hShq : ∀ hx hm, Iny hx hm → xShp hx hm) (hS : xSt Inv Iny l yX9_both yX10_both j9_both j10_both (fun as => as.length = 1)) (hW : xLw X b L xs) (hl : X.1.2.1 = l) (hI : Inv hx hm) (ht : 6 * t + 6 ≤ L) (hL : L ≤ 3072) (hn : n + 1101 ≤ 601024) (hk : k + 6606 ≤ 7293034) (kk : xLwK Iny l X b L xs n k t) : xV jL_law X n k (hLw hx hm out) 1363 [(4, .int (Int32.ofNat (6 * t))), (0, .ref 2000), (1, .ref 0), (2, .ref 81), (3, .ref 101)] [] := by
  obtain ⟨hlx, hlm, ⟨fx, hx0⟩, ⟨fm, hm0⟩, hsx⟩ := hShp hx hm hI
  refine xV_aload_n 1364 rfl dL_law_1363 rfl 2 rfl ?_
  refine xV_aload_n 1365 rfl dL_law_1364 rfl 1 rfl ?_
  refine xV_iload 1367 rfl dL_law_1365 0 rfl ?_
  refine xV_iconst (v := 1) 1368 rfl dL_law_1367 (by decide) ?_
  refine xV_iadd 1369 rfl dL_law_1368 ?_
  refine xV_sld 1370 rfl hW dL_law_1369 (xArgI 1 (by decide) ht hL) (xArgJ 1 (by decide) ht hL) ?_
  obtain ⟨v, hx2, hm2, hc9, hc10, hI2⟩ := hS [(xs (6 * t + 1))] hx hm hI (by exact rfl)
  obtain ⟨hlx2, hlm2, ⟨fx2, hx02⟩, ⟨fm2, hm02⟩, hsx2⟩ := hShq hx2 hm2 hI2
  refine xV_pre (J := jL_law) (X := X) (pc := 1370) (h := hx) (h' := hx2) (t := hm.map (xe (fun j => 81 + j)) ++ [.inl (1, 1, .inr (.inl out))]) (rest := []) (av2 := [.int (xs (6 * t + 1))]) 1373 rfl dL_law_1370 hl hc9 m9_both v9_both (List.mem_of_getElem? (i := 1174) (by decide +kernel)) (hlx2.trans hlx.symm) rfl (xAt0 hx0) rfl rfl (Nat.le_of_ble_eq_true rfl) (Nat.le_of_ble_eq_true rfl) (Nat.le_of_ble_eq_true rfl) ⟨xz1 hn, xz1 hk⟩ ?_
  refine xV_eq (n' := n) (k' := k) (Nat.add_zero n) (Nat.add_zero k) ?_
  show xV jL_law X n k (hLw hx2 hm out) 1373 [(4, .int (Int32.ofNat (6 * t))), (0, .ref 2000), (1, .ref 0), (2, .ref 81), (3, .ref 101)] [.int v]
  refine xV_aload_n 1374 rfl dL_law_1373 rfl 3 rfl ?_
  refine xV_aload_n 1375 rfl dL_law_1374 rfl 1 rfl ?_
  refine xV_iload 1377 rfl dL_law_1375 0 rfl ?_
  refine xV_iconst (v := 1) 1378 rfl dL_law_1377 (by decide) ?_
  refine xV_iadd 1379 rfl dL_law_1378 ?_
  refine xV_sld 1380 rfl hW dL_law_1379 (xArgI 1 (by decide) ht hL) (xArgJ 1 (by decide) ht hL) ?_
  refine xV_mid (hx := hx2) (hm := hm) (hm' := hm2) (t := [.inl (1, 1, .inr (.inl out))]) (rest := [.int v]) (av2 := [.int (xs (6 * t + 1))]) 81 hlx2 1383 rfl dL_law_1380 hl hc10 m10_both v10_both (List.mem_of_getElem? (i := 1178) (by decide +kernel)) (hlm2.trans hlm.symm) rfl rfl rfl hm0 rfl rfl (Nat.le_of_ble_eq_true rfl) (Nat.le_of_ble_eq_true rfl) (Nat.le_of_ble_eq_true rfl) ⟨xz1 hn, xz1 hk⟩ ?_
  refine xV_eq (n' := n) (k' := k) (Nat.add_zero n) (Nat.add_zero k) ?_
  show xV jL_law X n k (hLw hx2 hm2 out) 1383 [(4, .int (Int32.ofNat (6 * t))), (0, .ref 2000), (1, .ref 0), (2, .ref 81), (3, .ref 101)] [.int v, .int v]
  refine xV_icmp_eq (tgt := 1676) 1386 rfl dL_law_1383 (by decide) (fun _ => ?_) (fun hq => absurd rfl hq)
  exact kk X n k hx2 hm2 out hW hl (by omega) (by omega) hI2
theorem dL_law_1388 : decode cL_law 1388 = .ok (.aload_n 1, 1) := by decide +kernel
theorem dL_law_1389 : decode cL_law 1389 = .ok (.aload_n 0, 1) := by decide +kernel
theorem dL_law_1390 : decode cL_law 1390 = .ok (.iload 4, 2) := by decide +kernel
theorem dL_law_1392 : decode cL_law 1392 = .ok (.iconst 1, 1) := by decide +kernel
theorem dL_law_1393 : decode cL_law 1393 = .ok (.iadd, 1) := by decide +kernel
theorem dL_law_1394 : decode cL_law 1394 = .ok (.iaload, 1) := by decide +kernel
theorem dL_law_1395 : decode cL_law 1395 = .ok (.aload_n 0, 1) := by decide +kernel
theorem dL_law_1396 : decode cL_law 1396 = .ok (.iload 4, 2) := by decide +kernel
theorem dL_law_1398 : decode cL_law 1398 = .ok (.iconst 2, 1) := by decide +kernel
theorem dL_law_1399 : decode cL_law 1399 = .ok (.iadd, 1) := by decide +kernel
theorem dL_law_1400 : decode cL_law 1400 = .ok (.iaload, 1) := by decide +kernel
theorem dL_law_1401 : decode cL_law 1401 = .ok (.aload_n 0, 1) := by decide +kernel
theorem dL_law_1402 : decode cL_law 1402 = .ok (.iload 4, 2) := by decide +kernel
theorem dL_law_1404 : decode cL_law 1404 = .ok (.iconst 3, 1) := by decide +kernel
theorem dL_law_1405 : decode cL_law 1405 = .ok (.iadd, 1) := by decide +kernel
theorem dL_law_1406 : decode cL_law 1406 = .ok (.iaload, 1) := by decide +kernel
theorem dL_law_1407 : decode cL_law 1407 = .ok (.invokevirtual 158, 3) := by decide +kernel
theorem dL_law_1410 : decode cL_law 1410 = .ok (.aload_n 2, 1) := by decide +kernel
theorem dL_law_1411 : decode cL_law 1411 = .ok (.aload_n 0, 1) := by decide +kernel
theorem dL_law_1412 : decode cL_law 1412 = .ok (.iload 4, 2) := by decide +kernel
theorem dL_law_1414 : decode cL_law 1414 = .ok (.iconst 1, 1) := by decide +kernel
theorem dL_law_1415 : decode cL_law 1415 = .ok (.iadd, 1) := by decide +kernel
theorem dL_law_1416 : decode cL_law 1416 = .ok (.iaload, 1) := by decide +kernel
theorem dL_law_1417 : decode cL_law 1417 = .ok (.aload_n 0, 1) := by decide +kernel
theorem dL_law_1418 : decode cL_law 1418 = .ok (.iload 4, 2) := by decide +kernel
theorem dL_law_1420 : decode cL_law 1420 = .ok (.iconst 2, 1) := by decide +kernel
theorem dL_law_1421 : decode cL_law 1421 = .ok (.iadd, 1) := by decide +kernel
theorem dL_law_1422 : decode cL_law 1422 = .ok (.iaload, 1) := by decide +kernel
theorem dL_law_1423 : decode cL_law 1423 = .ok (.aload_n 0, 1) := by decide +kernel
theorem dL_law_1424 : decode cL_law 1424 = .ok (.iload 4, 2) := by decide +kernel
theorem dL_law_1426 : decode cL_law 1426 = .ok (.iconst 3, 1) := by decide +kernel
theorem dL_law_1427 : decode cL_law 1427 = .ok (.iadd, 1) := by decide +kernel
theorem dL_law_1428 : decode cL_law 1428 = .ok (.iaload, 1) := by decide +kernel
theorem dL_law_1429 : decode cL_law 1429 = .ok (.invokevirtual 161, 3) := by decide +kernel
theorem dL_law_1432 : decode cL_law 1432 = .ok (.if_icmp .eq 244, 3) := by decide +kernel
theorem Lw_mean {Inv Iny : xHp → xHp → Prop} {l : Launch} {X : xX} {b L : Nat} {xs : Nat → Int32} {n k t : Nat} {hx hm : xHp} {out : Nat → Int64} (hShp : ∀ hx hm, Inv hx hm → xShp hx hm) (hShq : ∀ hx hm, Iny hx hm → xShp hx hm) (hS : xSt Inv Iny l yX9_mean yX10_mean j9_mean j10_mean (fun as => as.length = 3)) (hW : xLw X b L xs) (hl : X.1.2.1 = l) (hI : Inv hx hm) (ht : 6 * t + 6 ≤ L) (hL : L ≤ 3072) (hn : n + 1101 ≤ 601024) (hk : k + 6606 ≤ 7293034) (kk : xLwK Iny l X b L xs n k t) : xV jL_law X n k (hLw hx hm out) 1388 [(4, .int (Int32.ofNat (6 * t))), (0, .ref 2000), (1, .ref 0), (2, .ref 81), (3, .ref 101)] [] := by
  obtain ⟨hlx, hlm, ⟨fx, hx0⟩, ⟨fm, hm0⟩, hsx⟩ := hShp hx hm hI
  refine xV_aload_n 1389 rfl dL_law_1388 rfl 2 rfl ?_
  refine xV_aload_n 1390 rfl dL_law_1389 rfl 1 rfl ?_
  refine xV_iload 1392 rfl dL_law_1390 0 rfl ?_
  refine xV_iconst (v := 1) 1393 rfl dL_law_1392 (by decide) ?_
  refine xV_iadd 1394 rfl dL_law_1393 ?_
  refine xV_sld 1395 rfl hW dL_law_1394 (xArgI 1 (by decide) ht hL) (xArgJ 1 (by decide) ht hL) ?_
  refine xV_aload_n 1396 rfl dL_law_1395 rfl 1 rfl ?_
  refine xV_iload 1398 rfl dL_law_1396 0 rfl ?_
  refine xV_iconst (v := 2) 1399 rfl dL_law_1398 (by decide) ?_
  refine xV_iadd 1400 rfl dL_law_1399 ?_
  refine xV_sld 1401 rfl hW dL_law_1400 (xArgI 2 (by decide) ht hL) (xArgJ 2 (by decide) ht hL) ?_
  refine xV_aload_n 1402 rfl dL_law_1401 rfl 1 rfl ?_
  refine xV_iload 1404 rfl dL_law_1402 0 rfl ?_
  refine xV_iconst (v := 3) 1405 rfl dL_law_1404 (by decide) ?_
  refine xV_iadd 1406 rfl dL_law_1405 ?_
  refine xV_sld 1407 rfl hW dL_law_1406 (xArgI 3 (by decide) ht hL) (xArgJ 3 (by decide) ht hL) ?_
  obtain ⟨v, hx2, hm2, hc9, hc10, hI2⟩ := hS [(xs (6 * t + 1)), (xs (6 * t + 2)), (xs (6 * t + 3))] hx hm hI (by exact rfl)
  obtain ⟨hlx2, hlm2, ⟨fx2, hx02⟩, ⟨fm2, hm02⟩, hsx2⟩ := hShq hx2 hm2 hI2
  refine xV_pre (J := jL_law) (X := X) (pc := 1407) (h := hx) (h' := hx2) (t := hm.map (xe (fun j => 81 + j)) ++ [.inl (1, 1, .inr (.inl out))]) (rest := []) (av2 := [.int (xs (6 * t + 1)), .int (xs (6 * t + 2)), .int (xs (6 * t + 3))]) 1410 rfl dL_law_1407 hl hc9 m9_mean v9_mean (List.mem_of_getElem? (i := 1182) (by decide +kernel)) (hlx2.trans hlx.symm) rfl (xAt0 hx0) rfl rfl (Nat.le_of_ble_eq_true rfl) (Nat.le_of_ble_eq_true rfl) (Nat.le_of_ble_eq_true rfl) ⟨xz1 hn, xz1 hk⟩ ?_
  refine xV_eq (n' := n) (k' := k) (Nat.add_zero n) (Nat.add_zero k) ?_
  show xV jL_law X n k (hLw hx2 hm out) 1410 [(4, .int (Int32.ofNat (6 * t))), (0, .ref 2000), (1, .ref 0), (2, .ref 81), (3, .ref 101)] [.int v]
  refine xV_aload_n 1411 rfl dL_law_1410 rfl 3 rfl ?_
  refine xV_aload_n 1412 rfl dL_law_1411 rfl 1 rfl ?_
  refine xV_iload 1414 rfl dL_law_1412 0 rfl ?_
  refine xV_iconst (v := 1) 1415 rfl dL_law_1414 (by decide) ?_
  refine xV_iadd 1416 rfl dL_law_1415 ?_
  refine xV_sld 1417 rfl hW dL_law_1416 (xArgI 1 (by decide) ht hL) (xArgJ 1 (by decide) ht hL) ?_
  refine xV_aload_n 1418 rfl dL_law_1417 rfl 1 rfl ?_
  refine xV_iload 1420 rfl dL_law_1418 0 rfl ?_
  refine xV_iconst (v := 2) 1421 rfl dL_law_1420 (by decide) ?_
  refine xV_iadd 1422 rfl dL_law_1421 ?_
  refine xV_sld 1423 rfl hW dL_law_1422 (xArgI 2 (by decide) ht hL) (xArgJ 2 (by decide) ht hL) ?_
  refine xV_aload_n 1424 rfl dL_law_1423 rfl 1 rfl ?_
  refine xV_iload 1426 rfl dL_law_1424 0 rfl ?_
  refine xV_iconst (v := 3) 1427 rfl dL_law_1426 (by decide) ?_
  refine xV_iadd 1428 rfl dL_law_1427 ?_
  refine xV_sld 1429 rfl hW dL_law_1428 (xArgI 3 (by decide) ht hL) (xArgJ 3 (by decide) ht hL) ?_
  refine xV_mid (hx := hx2) (hm := hm) (hm' := hm2) (t := [.inl (1, 1, .inr (.inl out))]) (rest := [.int v]) (av2 := [.int (xs (6 * t + 1)), .int (xs (6 * t + 2)), .int (xs (6 * t + 3))]) 81 hlx2 1432 rfl dL_law_1429 hl hc10 m10_mean v10_mean (List.mem_of_getElem? (i := 1187) (by decide +kernel)) (hlm2.trans hlm.symm) rfl rfl rfl hm0 rfl rfl (Nat.le_of_ble_eq_true rfl) (Nat.le_of_ble_eq_true rfl) (Nat.le_of_ble_eq_true rfl) ⟨xz1 hn, xz1 hk⟩ ?_
  refine xV_eq (n' := n) (k' := k) (Nat.add_zero n) (Nat.add_zero k) ?_
  show xV jL_law X n k (hLw hx2 hm2 out) 1432 [(4, .int (Int32.ofNat (6 * t))), (0, .ref 2000), (1, .ref 0), (2, .ref 81), (3, .ref 101)] [.int v, .int v]
  refine xV_icmp_eq (tgt := 1676) 1435 rfl dL_law_1432 (by decide) (fun _ => ?_) (fun hq => absurd rfl hq)
  exact kk X n k hx2 hm2 out hW hl (by omega) (by omega) hI2
theorem dL_law_1437 : decode cL_law 1437 = .ok (.aload_n 1, 1) := by decide +kernel
theorem dL_law_1438 : decode cL_law 1438 = .ok (.aload_n 0, 1) := by decide +kernel
theorem dL_law_1439 : decode cL_law 1439 = .ok (.iload 4, 2) := by decide +kernel
theorem dL_law_1441 : decode cL_law 1441 = .ok (.iconst 1, 1) := by decide +kernel
theorem dL_law_1442 : decode cL_law 1442 = .ok (.iadd, 1) := by decide +kernel
theorem dL_law_1443 : decode cL_law 1443 = .ok (.iaload, 1) := by decide +kernel
theorem dL_law_1444 : decode cL_law 1444 = .ok (.invokevirtual 162, 3) := by decide +kernel
theorem dL_law_1447 : decode cL_law 1447 = .ok (.aload_n 2, 1) := by decide +kernel
theorem dL_law_1448 : decode cL_law 1448 = .ok (.aload_n 0, 1) := by decide +kernel
theorem dL_law_1449 : decode cL_law 1449 = .ok (.iload 4, 2) := by decide +kernel
theorem dL_law_1451 : decode cL_law 1451 = .ok (.iconst 1, 1) := by decide +kernel
theorem dL_law_1452 : decode cL_law 1452 = .ok (.iadd, 1) := by decide +kernel
theorem dL_law_1453 : decode cL_law 1453 = .ok (.iaload, 1) := by decide +kernel
theorem dL_law_1454 : decode cL_law 1454 = .ok (.invokevirtual 165, 3) := by decide +kernel
theorem dL_law_1457 : decode cL_law 1457 = .ok (.if_icmp .eq 219, 3) := by decide +kernel
theorem Lw_state {Inv Iny : xHp → xHp → Prop} {l : Launch} {X : xX} {b L : Nat} {xs : Nat → Int32} {n k t : Nat} {hx hm : xHp} {out : Nat → Int64} (hShp : ∀ hx hm, Inv hx hm → xShp hx hm) (hShq : ∀ hx hm, Iny hx hm → xShp hx hm) (hS : xSt Inv Iny l yX9_state yX10_state j9_state j10_state (fun as => as.length = 1)) (hW : xLw X b L xs) (hl : X.1.2.1 = l) (hI : Inv hx hm) (ht : 6 * t + 6 ≤ L) (hL : L ≤ 3072) (hn : n + 1101 ≤ 601024) (hk : k + 6606 ≤ 7293034) (kk : xLwK Iny l X b L xs n k t) : xV jL_law X n k (hLw hx hm out) 1437 [(4, .int (Int32.ofNat (6 * t))), (0, .ref 2000), (1, .ref 0), (2, .ref 81), (3, .ref 101)] [] := by
  obtain ⟨hlx, hlm, ⟨fx, hx0⟩, ⟨fm, hm0⟩, hsx⟩ := hShp hx hm hI
  refine xV_aload_n 1438 rfl dL_law_1437 rfl 2 rfl ?_
  refine xV_aload_n 1439 rfl dL_law_1438 rfl 1 rfl ?_
  refine xV_iload 1441 rfl dL_law_1439 0 rfl ?_
  refine xV_iconst (v := 1) 1442 rfl dL_law_1441 (by decide) ?_
  refine xV_iadd 1443 rfl dL_law_1442 ?_
  refine xV_sld 1444 rfl hW dL_law_1443 (xArgI 1 (by decide) ht hL) (xArgJ 1 (by decide) ht hL) ?_
  obtain ⟨v, hx2, hm2, hc9, hc10, hI2⟩ := hS [(xs (6 * t + 1))] hx hm hI (by exact rfl)
  obtain ⟨hlx2, hlm2, ⟨fx2, hx02⟩, ⟨fm2, hm02⟩, hsx2⟩ := hShq hx2 hm2 hI2
  refine xV_pre (J := jL_law) (X := X) (pc := 1444) (h := hx) (h' := hx2) (t := hm.map (xe (fun j => 81 + j)) ++ [.inl (1, 1, .inr (.inl out))]) (rest := []) (av2 := [.int (xs (6 * t + 1))]) 1447 rfl dL_law_1444 hl hc9 m9_state v9_state (List.mem_of_getElem? (i := 1191) (by decide +kernel)) (hlx2.trans hlx.symm) rfl (xAt0 hx0) rfl rfl (Nat.le_of_ble_eq_true rfl) (Nat.le_of_ble_eq_true rfl) (Nat.le_of_ble_eq_true rfl) ⟨xz1 hn, xz1 hk⟩ ?_
  refine xV_eq (n' := n) (k' := k) (Nat.add_zero n) (Nat.add_zero k) ?_
  show xV jL_law X n k (hLw hx2 hm out) 1447 [(4, .int (Int32.ofNat (6 * t))), (0, .ref 2000), (1, .ref 0), (2, .ref 81), (3, .ref 101)] [.int v]
  refine xV_aload_n 1448 rfl dL_law_1447 rfl 3 rfl ?_
  refine xV_aload_n 1449 rfl dL_law_1448 rfl 1 rfl ?_
  refine xV_iload 1451 rfl dL_law_1449 0 rfl ?_
  refine xV_iconst (v := 1) 1452 rfl dL_law_1451 (by decide) ?_
  refine xV_iadd 1453 rfl dL_law_1452 ?_
  refine xV_sld 1454 rfl hW dL_law_1453 (xArgI 1 (by decide) ht hL) (xArgJ 1 (by decide) ht hL) ?_
  refine xV_mid (hx := hx2) (hm := hm) (hm' := hm2) (t := [.inl (1, 1, .inr (.inl out))]) (rest := [.int v]) (av2 := [.int (xs (6 * t + 1))]) 81 hlx2 1457 rfl dL_law_1454 hl hc10 m10_state v10_state (List.mem_of_getElem? (i := 1196) (by decide +kernel)) (hlm2.trans hlm.symm) rfl rfl rfl hm0 rfl rfl (Nat.le_of_ble_eq_true rfl) (Nat.le_of_ble_eq_true rfl) (Nat.le_of_ble_eq_true rfl) ⟨xz1 hn, xz1 hk⟩ ?_
  refine xV_eq (n' := n) (k' := k) (Nat.add_zero n) (Nat.add_zero k) ?_
  show xV jL_law X n k (hLw hx2 hm2 out) 1457 [(4, .int (Int32.ofNat (6 * t))), (0, .ref 2000), (1, .ref 0), (2, .ref 81), (3, .ref 101)] [.int v, .int v]
  refine xV_icmp_eq (tgt := 1676) 1460 rfl dL_law_1457 (by decide) (fun _ => ?_) (fun hq => absurd rfl hq)
  exact kk X n k hx2 hm2 out hW hl (by omega) (by omega) hI2
theorem dL_law_1462 : decode cL_law 1462 = .ok (.aload_n 1, 1) := by decide +kernel
theorem dL_law_1463 : decode cL_law 1463 = .ok (.aload_n 0, 1) := by decide +kernel
theorem dL_law_1464 : decode cL_law 1464 = .ok (.iload 4, 2) := by decide +kernel
theorem dL_law_1466 : decode cL_law 1466 = .ok (.iconst 1, 1) := by decide +kernel
theorem dL_law_1467 : decode cL_law 1467 = .ok (.iadd, 1) := by decide +kernel
theorem dL_law_1468 : decode cL_law 1468 = .ok (.iaload, 1) := by decide +kernel
theorem dL_law_1469 : decode cL_law 1469 = .ok (.aload_n 0, 1) := by decide +kernel
theorem dL_law_1470 : decode cL_law 1470 = .ok (.iload 4, 2) := by decide +kernel
theorem dL_law_1472 : decode cL_law 1472 = .ok (.iconst 2, 1) := by decide +kernel
theorem dL_law_1473 : decode cL_law 1473 = .ok (.iadd, 1) := by decide +kernel
theorem dL_law_1474 : decode cL_law 1474 = .ok (.iaload, 1) := by decide +kernel
theorem dL_law_1475 : decode cL_law 1475 = .ok (.ifCond .eq 7, 3) := by decide +kernel
theorem dL_law_1478 : decode cL_law 1478 = .ok (.iconst 1, 1) := by decide +kernel
theorem dL_law_1479 : decode cL_law 1479 = .ok (.goto 4, 3) := by decide +kernel
theorem dL_law_1482 : decode cL_law 1482 = .ok (.iconst 0, 1) := by decide +kernel
theorem dL_law_1483 : decode cL_law 1483 = .ok (.invokevirtual 166, 3) := by decide +kernel
theorem dL_law_1486 : decode cL_law 1486 = .ok (.aload_n 2, 1) := by decide +kernel
theorem dL_law_1487 : decode cL_law 1487 = .ok (.aload_n 0, 1) := by decide +kernel
theorem dL_law_1488 : decode cL_law 1488 = .ok (.iload 4, 2) := by decide +kernel
theorem dL_law_1490 : decode cL_law 1490 = .ok (.iconst 1, 1) := by decide +kernel
theorem dL_law_1491 : decode cL_law 1491 = .ok (.iadd, 1) := by decide +kernel
theorem dL_law_1492 : decode cL_law 1492 = .ok (.iaload, 1) := by decide +kernel
theorem dL_law_1493 : decode cL_law 1493 = .ok (.aload_n 0, 1) := by decide +kernel
theorem dL_law_1494 : decode cL_law 1494 = .ok (.iload 4, 2) := by decide +kernel
theorem dL_law_1496 : decode cL_law 1496 = .ok (.iconst 2, 1) := by decide +kernel
theorem dL_law_1497 : decode cL_law 1497 = .ok (.iadd, 1) := by decide +kernel
theorem dL_law_1498 : decode cL_law 1498 = .ok (.iaload, 1) := by decide +kernel
theorem dL_law_1499 : decode cL_law 1499 = .ok (.ifCond .eq 7, 3) := by decide +kernel
theorem dL_law_1502 : decode cL_law 1502 = .ok (.iconst 1, 1) := by decide +kernel
theorem dL_law_1503 : decode cL_law 1503 = .ok (.goto 4, 3) := by decide +kernel
theorem dL_law_1506 : decode cL_law 1506 = .ok (.iconst 0, 1) := by decide +kernel
theorem dL_law_1507 : decode cL_law 1507 = .ok (.invokevirtual 170, 3) := by decide +kernel
theorem dL_law_1510 : decode cL_law 1510 = .ok (.if_icmp .eq 166, 3) := by decide +kernel
theorem Lw_draw {Inv Iny : xHp → xHp → Prop} {l : Launch} {X : xX} {b L : Nat} {xs : Nat → Int32} {n k t : Nat} {hx hm : xHp} {out : Nat → Int64} (hShp : ∀ hx hm, Inv hx hm → xShp hx hm) (hShq : ∀ hx hm, Iny hx hm → xShp hx hm) (hS : xSt Inv Iny l yX9_draw yX10_draw j9_draw j10_draw (fun as => as.length = 2 ∧ (as.getD 1 0 = 0 ∨ as.getD 1 0 = 1))) (hW : xLw X b L xs) (hl : X.1.2.1 = l) (hI : Inv hx hm) (ht : 6 * t + 6 ≤ L) (hL : L ≤ 3072) (hn : n + 1101 ≤ 601024) (hk : k + 6606 ≤ 7293034) (kk : xLwK Iny l X b L xs n k t) : xV jL_law X n k (hLw hx hm out) 1462 [(4, .int (Int32.ofNat (6 * t))), (0, .ref 2000), (1, .ref 0), (2, .ref 81), (3, .ref 101)] [] := by
  obtain ⟨hlx, hlm, ⟨fx, hx0⟩, ⟨fm, hm0⟩, hsx⟩ := hShp hx hm hI
  refine xV_aload_n 1463 rfl dL_law_1462 rfl 2 rfl ?_
  refine xV_aload_n 1464 rfl dL_law_1463 rfl 1 rfl ?_
  refine xV_iload 1466 rfl dL_law_1464 0 rfl ?_
  refine xV_iconst (v := 1) 1467 rfl dL_law_1466 (by decide) ?_
  refine xV_iadd 1468 rfl dL_law_1467 ?_
  refine xV_sld 1469 rfl hW dL_law_1468 (xArgI 1 (by decide) ht hL) (xArgJ 1 (by decide) ht hL) ?_
  refine xV_aload_n 1470 rfl dL_law_1469 rfl 1 rfl ?_
  refine xV_iload 1472 rfl dL_law_1470 0 rfl ?_
  refine xV_iconst (v := 2) 1473 rfl dL_law_1472 (by decide) ?_
  refine xV_iadd 1474 rfl dL_law_1473 ?_
  refine xV_sld 1475 rfl hW dL_law_1474 (xArgI 2 (by decide) ht hL) (xArgJ 2 (by decide) ht hL) ?_
  refine xV_bool (X0 := 1482) (Y0 := 1483) 1475 rfl dL_law_1475 dL_law_1478 dL_law_1479 dL_law_1482 (by decide) (by decide) rfl ?_
  obtain ⟨v, hx2, hm2, hc9, hc10, hI2⟩ := hS [(xs (6 * t + 1)), (if xs (6 * t + 2) = 0 then 0 else 1)] hx hm hI (by exact ⟨rfl, xb01 _⟩)
  obtain ⟨hlx2, hlm2, ⟨fx2, hx02⟩, ⟨fm2, hm02⟩, hsx2⟩ := hShq hx2 hm2 hI2
  refine xV_pre (J := jL_law) (X := X) (pc := 1483) (h := hx) (h' := hx2) (t := hm.map (xe (fun j => 81 + j)) ++ [.inl (1, 1, .inr (.inl out))]) (rest := []) (av2 := [.int (xs (6 * t + 1)), .int (if xs (6 * t + 2) = 0 then 0 else 1)]) 1486 rfl dL_law_1483 hl hc9 m9_draw v9_draw (List.mem_of_getElem? (i := 1201) (by decide +kernel)) (hlx2.trans hlx.symm) rfl (xAt0 hx0) rfl rfl (Nat.le_of_ble_eq_true rfl) (Nat.le_of_ble_eq_true rfl) (Nat.le_of_ble_eq_true rfl) ⟨xz1 hn, xz1 hk⟩ ?_
  refine xV_eq (n' := n) (k' := k) (Nat.add_zero n) (Nat.add_zero k) ?_
  show xV jL_law X n k (hLw hx2 hm out) 1486 [(4, .int (Int32.ofNat (6 * t))), (0, .ref 2000), (1, .ref 0), (2, .ref 81), (3, .ref 101)] [.int v]
  refine xV_aload_n 1487 rfl dL_law_1486 rfl 3 rfl ?_
  refine xV_aload_n 1488 rfl dL_law_1487 rfl 1 rfl ?_
  refine xV_iload 1490 rfl dL_law_1488 0 rfl ?_
  refine xV_iconst (v := 1) 1491 rfl dL_law_1490 (by decide) ?_
  refine xV_iadd 1492 rfl dL_law_1491 ?_
  refine xV_sld 1493 rfl hW dL_law_1492 (xArgI 1 (by decide) ht hL) (xArgJ 1 (by decide) ht hL) ?_
  refine xV_aload_n 1494 rfl dL_law_1493 rfl 1 rfl ?_
  refine xV_iload 1496 rfl dL_law_1494 0 rfl ?_
  refine xV_iconst (v := 2) 1497 rfl dL_law_1496 (by decide) ?_
  refine xV_iadd 1498 rfl dL_law_1497 ?_
  refine xV_sld 1499 rfl hW dL_law_1498 (xArgI 2 (by decide) ht hL) (xArgJ 2 (by decide) ht hL) ?_
  refine xV_bool (X0 := 1506) (Y0 := 1507) 1499 rfl dL_law_1499 dL_law_1502 dL_law_1503 dL_law_1506 (by decide) (by decide) rfl ?_
  refine xV_mid (hx := hx2) (hm := hm) (hm' := hm2) (t := [.inl (1, 1, .inr (.inl out))]) (rest := [.int v]) (av2 := [.int (xs (6 * t + 1)), .int (if xs (6 * t + 2) = 0 then 0 else 1)]) 81 hlx2 1510 rfl dL_law_1507 hl hc10 m10_draw v10_draw (List.mem_of_getElem? (i := 1223) (by decide +kernel)) (hlm2.trans hlm.symm) rfl rfl rfl hm0 rfl rfl (Nat.le_of_ble_eq_true rfl) (Nat.le_of_ble_eq_true rfl) (Nat.le_of_ble_eq_true rfl) ⟨xz1 hn, xz1 hk⟩ ?_
  refine xV_eq (n' := n) (k' := k) (Nat.add_zero n) (Nat.add_zero k) ?_
  show xV jL_law X n k (hLw hx2 hm2 out) 1510 [(4, .int (Int32.ofNat (6 * t))), (0, .ref 2000), (1, .ref 0), (2, .ref 81), (3, .ref 101)] [.int v, .int v]
  refine xV_icmp_eq (tgt := 1676) 1513 rfl dL_law_1510 (by decide) (fun _ => ?_) (fun hq => absurd rfl hq)
  exact kk X n k hx2 hm2 out hW hl (by omega) (by omega) hI2
theorem dL_law_1515 : decode cL_law 1515 = .ok (.aload_n 1, 1) := by decide +kernel
theorem dL_law_1516 : decode cL_law 1516 = .ok (.aload_n 0, 1) := by decide +kernel
theorem dL_law_1517 : decode cL_law 1517 = .ok (.iload 4, 2) := by decide +kernel
theorem dL_law_1519 : decode cL_law 1519 = .ok (.iconst 1, 1) := by decide +kernel
theorem dL_law_1520 : decode cL_law 1520 = .ok (.iadd, 1) := by decide +kernel
theorem dL_law_1521 : decode cL_law 1521 = .ok (.iaload, 1) := by decide +kernel
theorem dL_law_1522 : decode cL_law 1522 = .ok (.invokevirtual 171, 3) := by decide +kernel
theorem dL_law_1525 : decode cL_law 1525 = .ok (.aload_n 2, 1) := by decide +kernel
theorem dL_law_1526 : decode cL_law 1526 = .ok (.aload_n 0, 1) := by decide +kernel
theorem dL_law_1527 : decode cL_law 1527 = .ok (.iload 4, 2) := by decide +kernel
theorem dL_law_1529 : decode cL_law 1529 = .ok (.iconst 1, 1) := by decide +kernel
theorem dL_law_1530 : decode cL_law 1530 = .ok (.iadd, 1) := by decide +kernel
theorem dL_law_1531 : decode cL_law 1531 = .ok (.iaload, 1) := by decide +kernel
theorem dL_law_1532 : decode cL_law 1532 = .ok (.invokevirtual 174, 3) := by decide +kernel
theorem dL_law_1535 : decode cL_law 1535 = .ok (.if_icmp .eq 141, 3) := by decide +kernel
theorem Lw_match {Inv Iny : xHp → xHp → Prop} {l : Launch} {X : xX} {b L : Nat} {xs : Nat → Int32} {n k t : Nat} {hx hm : xHp} {out : Nat → Int64} (hShp : ∀ hx hm, Inv hx hm → xShp hx hm) (hShq : ∀ hx hm, Iny hx hm → xShp hx hm) (hS : xSt Inv Iny l yX9_match yX10_match j9_match j10_match (fun as => as.length = 1)) (hW : xLw X b L xs) (hl : X.1.2.1 = l) (hI : Inv hx hm) (ht : 6 * t + 6 ≤ L) (hL : L ≤ 3072) (hn : n + 1101 ≤ 601024) (hk : k + 6606 ≤ 7293034) (kk : xLwK Iny l X b L xs n k t) : xV jL_law X n k (hLw hx hm out) 1515 [(4, .int (Int32.ofNat (6 * t))), (0, .ref 2000), (1, .ref 0), (2, .ref 81), (3, .ref 101)] [] := by
  obtain ⟨hlx, hlm, ⟨fx, hx0⟩, ⟨fm, hm0⟩, hsx⟩ := hShp hx hm hI
  refine xV_aload_n 1516 rfl dL_law_1515 rfl 2 rfl ?_
  refine xV_aload_n 1517 rfl dL_law_1516 rfl 1 rfl ?_
  refine xV_iload 1519 rfl dL_law_1517 0 rfl ?_
  refine xV_iconst (v := 1) 1520 rfl dL_law_1519 (by decide) ?_
  refine xV_iadd 1521 rfl dL_law_1520 ?_
  refine xV_sld 1522 rfl hW dL_law_1521 (xArgI 1 (by decide) ht hL) (xArgJ 1 (by decide) ht hL) ?_
  obtain ⟨v, hx2, hm2, hc9, hc10, hI2⟩ := hS [(xs (6 * t + 1))] hx hm hI (by exact rfl)
  obtain ⟨hlx2, hlm2, ⟨fx2, hx02⟩, ⟨fm2, hm02⟩, hsx2⟩ := hShq hx2 hm2 hI2
  refine xV_pre (J := jL_law) (X := X) (pc := 1522) (h := hx) (h' := hx2) (t := hm.map (xe (fun j => 81 + j)) ++ [.inl (1, 1, .inr (.inl out))]) (rest := []) (av2 := [.int (xs (6 * t + 1))]) 1525 rfl dL_law_1522 hl hc9 m9_match v9_match (List.mem_of_getElem? (i := 1241) (by decide +kernel)) (hlx2.trans hlx.symm) rfl (xAt0 hx0) rfl rfl (Nat.le_of_ble_eq_true rfl) (Nat.le_of_ble_eq_true rfl) (Nat.le_of_ble_eq_true rfl) ⟨xz1 hn, xz1 hk⟩ ?_
  refine xV_eq (n' := n) (k' := k) (Nat.add_zero n) (Nat.add_zero k) ?_
  show xV jL_law X n k (hLw hx2 hm out) 1525 [(4, .int (Int32.ofNat (6 * t))), (0, .ref 2000), (1, .ref 0), (2, .ref 81), (3, .ref 101)] [.int v]
  refine xV_aload_n 1526 rfl dL_law_1525 rfl 3 rfl ?_
  refine xV_aload_n 1527 rfl dL_law_1526 rfl 1 rfl ?_
  refine xV_iload 1529 rfl dL_law_1527 0 rfl ?_
  refine xV_iconst (v := 1) 1530 rfl dL_law_1529 (by decide) ?_
  refine xV_iadd 1531 rfl dL_law_1530 ?_
  refine xV_sld 1532 rfl hW dL_law_1531 (xArgI 1 (by decide) ht hL) (xArgJ 1 (by decide) ht hL) ?_
  refine xV_mid (hx := hx2) (hm := hm) (hm' := hm2) (t := [.inl (1, 1, .inr (.inl out))]) (rest := [.int v]) (av2 := [.int (xs (6 * t + 1))]) 81 hlx2 1535 rfl dL_law_1532 hl hc10 m10_match v10_match (List.mem_of_getElem? (i := 1245) (by decide +kernel)) (hlm2.trans hlm.symm) rfl rfl rfl hm0 rfl rfl (Nat.le_of_ble_eq_true rfl) (Nat.le_of_ble_eq_true rfl) (Nat.le_of_ble_eq_true rfl) ⟨xz1 hn, xz1 hk⟩ ?_
  refine xV_eq (n' := n) (k' := k) (Nat.add_zero n) (Nat.add_zero k) ?_
  show xV jL_law X n k (hLw hx2 hm2 out) 1535 [(4, .int (Int32.ofNat (6 * t))), (0, .ref 2000), (1, .ref 0), (2, .ref 81), (3, .ref 101)] [.int v, .int v]
  refine xV_icmp_eq (tgt := 1676) 1538 rfl dL_law_1535 (by decide) (fun _ => ?_) (fun hq => absurd rfl hq)
  exact kk X n k hx2 hm2 out hW hl (by omega) (by omega) hI2
theorem dL_law_1540 : decode cL_law 1540 = .ok (.aload_n 1, 1) := by decide +kernel
theorem dL_law_1541 : decode cL_law 1541 = .ok (.aload_n 0, 1) := by decide +kernel
theorem dL_law_1542 : decode cL_law 1542 = .ok (.iload 4, 2) := by decide +kernel
theorem dL_law_1544 : decode cL_law 1544 = .ok (.iconst 1, 1) := by decide +kernel
theorem dL_law_1545 : decode cL_law 1545 = .ok (.iadd, 1) := by decide +kernel
theorem dL_law_1546 : decode cL_law 1546 = .ok (.iaload, 1) := by decide +kernel
theorem dL_law_1547 : decode cL_law 1547 = .ok (.aload_n 0, 1) := by decide +kernel
theorem dL_law_1548 : decode cL_law 1548 = .ok (.iload 4, 2) := by decide +kernel
theorem dL_law_1550 : decode cL_law 1550 = .ok (.iconst 2, 1) := by decide +kernel
theorem dL_law_1551 : decode cL_law 1551 = .ok (.iadd, 1) := by decide +kernel
theorem dL_law_1552 : decode cL_law 1552 = .ok (.iaload, 1) := by decide +kernel
theorem dL_law_1553 : decode cL_law 1553 = .ok (.invokevirtual 175, 3) := by decide +kernel
theorem dL_law_1556 : decode cL_law 1556 = .ok (.aload_n 2, 1) := by decide +kernel
theorem dL_law_1557 : decode cL_law 1557 = .ok (.aload_n 0, 1) := by decide +kernel
theorem dL_law_1558 : decode cL_law 1558 = .ok (.iload 4, 2) := by decide +kernel
theorem dL_law_1560 : decode cL_law 1560 = .ok (.iconst 1, 1) := by decide +kernel
theorem dL_law_1561 : decode cL_law 1561 = .ok (.iadd, 1) := by decide +kernel
theorem dL_law_1562 : decode cL_law 1562 = .ok (.iaload, 1) := by decide +kernel
theorem dL_law_1563 : decode cL_law 1563 = .ok (.aload_n 0, 1) := by decide +kernel
theorem dL_law_1564 : decode cL_law 1564 = .ok (.iload 4, 2) := by decide +kernel
theorem dL_law_1566 : decode cL_law 1566 = .ok (.iconst 2, 1) := by decide +kernel
theorem dL_law_1567 : decode cL_law 1567 = .ok (.iadd, 1) := by decide +kernel
theorem dL_law_1568 : decode cL_law 1568 = .ok (.iaload, 1) := by decide +kernel
theorem dL_law_1569 : decode cL_law 1569 = .ok (.invokevirtual 178, 3) := by decide +kernel
theorem dL_law_1572 : decode cL_law 1572 = .ok (.if_icmp .eq 104, 3) := by decide +kernel
theorem Lw_note {Inv Iny : xHp → xHp → Prop} {l : Launch} {X : xX} {b L : Nat} {xs : Nat → Int32} {n k t : Nat} {hx hm : xHp} {out : Nat → Int64} (hShp : ∀ hx hm, Inv hx hm → xShp hx hm) (hShq : ∀ hx hm, Iny hx hm → xShp hx hm) (hS : xSt Inv Iny l yX9_note yX10_note j9_note j10_note (fun as => as.length = 2)) (hW : xLw X b L xs) (hl : X.1.2.1 = l) (hI : Inv hx hm) (ht : 6 * t + 6 ≤ L) (hL : L ≤ 3072) (hn : n + 1101 ≤ 601024) (hk : k + 6606 ≤ 7293034) (kk : xLwK Iny l X b L xs n k t) : xV jL_law X n k (hLw hx hm out) 1540 [(4, .int (Int32.ofNat (6 * t))), (0, .ref 2000), (1, .ref 0), (2, .ref 81), (3, .ref 101)] [] := by
  obtain ⟨hlx, hlm, ⟨fx, hx0⟩, ⟨fm, hm0⟩, hsx⟩ := hShp hx hm hI
  refine xV_aload_n 1541 rfl dL_law_1540 rfl 2 rfl ?_
  refine xV_aload_n 1542 rfl dL_law_1541 rfl 1 rfl ?_
  refine xV_iload 1544 rfl dL_law_1542 0 rfl ?_
  refine xV_iconst (v := 1) 1545 rfl dL_law_1544 (by decide) ?_
  refine xV_iadd 1546 rfl dL_law_1545 ?_
  refine xV_sld 1547 rfl hW dL_law_1546 (xArgI 1 (by decide) ht hL) (xArgJ 1 (by decide) ht hL) ?_
  refine xV_aload_n 1548 rfl dL_law_1547 rfl 1 rfl ?_
  refine xV_iload 1550 rfl dL_law_1548 0 rfl ?_
  refine xV_iconst (v := 2) 1551 rfl dL_law_1550 (by decide) ?_
  refine xV_iadd 1552 rfl dL_law_1551 ?_
  refine xV_sld 1553 rfl hW dL_law_1552 (xArgI 2 (by decide) ht hL) (xArgJ 2 (by decide) ht hL) ?_
  obtain ⟨v, hx2, hm2, hc9, hc10, hI2⟩ := hS [(xs (6 * t + 1)), (xs (6 * t + 2))] hx hm hI (by exact rfl)
  obtain ⟨hlx2, hlm2, ⟨fx2, hx02⟩, ⟨fm2, hm02⟩, hsx2⟩ := hShq hx2 hm2 hI2
  refine xV_pre (J := jL_law) (X := X) (pc := 1553) (h := hx) (h' := hx2) (t := hm.map (xe (fun j => 81 + j)) ++ [.inl (1, 1, .inr (.inl out))]) (rest := []) (av2 := [.int (xs (6 * t + 1)), .int (xs (6 * t + 2))]) 1556 rfl dL_law_1553 hl hc9 m9_note v9_note (List.mem_of_getElem? (i := 1249) (by decide +kernel)) (hlx2.trans hlx.symm) rfl (xAt0 hx0) rfl rfl (Nat.le_of_ble_eq_true rfl) (Nat.le_of_ble_eq_true rfl) (Nat.le_of_ble_eq_true rfl) ⟨xz1 hn, xz1 hk⟩ ?_
  refine xV_eq (n' := n) (k' := k) (Nat.add_zero n) (Nat.add_zero k) ?_
  show xV jL_law X n k (hLw hx2 hm out) 1556 [(4, .int (Int32.ofNat (6 * t))), (0, .ref 2000), (1, .ref 0), (2, .ref 81), (3, .ref 101)] [.int v]
  refine xV_aload_n 1557 rfl dL_law_1556 rfl 3 rfl ?_
  refine xV_aload_n 1558 rfl dL_law_1557 rfl 1 rfl ?_
  refine xV_iload 1560 rfl dL_law_1558 0 rfl ?_
  refine xV_iconst (v := 1) 1561 rfl dL_law_1560 (by decide) ?_
  refine xV_iadd 1562 rfl dL_law_1561 ?_
  refine xV_sld 1563 rfl hW dL_law_1562 (xArgI 1 (by decide) ht hL) (xArgJ 1 (by decide) ht hL) ?_
  refine xV_aload_n 1564 rfl dL_law_1563 rfl 1 rfl ?_
  refine xV_iload 1566 rfl dL_law_1564 0 rfl ?_
  refine xV_iconst (v := 2) 1567 rfl dL_law_1566 (by decide) ?_
  refine xV_iadd 1568 rfl dL_law_1567 ?_
  refine xV_sld 1569 rfl hW dL_law_1568 (xArgI 2 (by decide) ht hL) (xArgJ 2 (by decide) ht hL) ?_
  refine xV_mid (hx := hx2) (hm := hm) (hm' := hm2) (t := [.inl (1, 1, .inr (.inl out))]) (rest := [.int v]) (av2 := [.int (xs (6 * t + 1)), .int (xs (6 * t + 2))]) 81 hlx2 1572 rfl dL_law_1569 hl hc10 m10_note v10_note (List.mem_of_getElem? (i := 1258) (by decide +kernel)) (hlm2.trans hlm.symm) rfl rfl rfl hm0 rfl rfl (Nat.le_of_ble_eq_true rfl) (Nat.le_of_ble_eq_true rfl) (Nat.le_of_ble_eq_true rfl) ⟨xz1 hn, xz1 hk⟩ ?_
  refine xV_eq (n' := n) (k' := k) (Nat.add_zero n) (Nat.add_zero k) ?_
  show xV jL_law X n k (hLw hx2 hm2 out) 1572 [(4, .int (Int32.ofNat (6 * t))), (0, .ref 2000), (1, .ref 0), (2, .ref 81), (3, .ref 101)] [.int v, .int v]
  refine xV_icmp_eq (tgt := 1676) 1575 rfl dL_law_1572 (by decide) (fun _ => ?_) (fun hq => absurd rfl hq)
  exact kk X n k hx2 hm2 out hW hl (by omega) (by omega) hI2
theorem dL_law_1577 : decode cL_law 1577 = .ok (.aload_n 1, 1) := by decide +kernel
theorem dL_law_1578 : decode cL_law 1578 = .ok (.aload_n 0, 1) := by decide +kernel
theorem dL_law_1579 : decode cL_law 1579 = .ok (.iload 4, 2) := by decide +kernel
theorem dL_law_1581 : decode cL_law 1581 = .ok (.iconst 1, 1) := by decide +kernel
theorem dL_law_1582 : decode cL_law 1582 = .ok (.iadd, 1) := by decide +kernel
theorem dL_law_1583 : decode cL_law 1583 = .ok (.iaload, 1) := by decide +kernel
theorem dL_law_1584 : decode cL_law 1584 = .ok (.aload_n 0, 1) := by decide +kernel
theorem dL_law_1585 : decode cL_law 1585 = .ok (.iload 4, 2) := by decide +kernel
theorem dL_law_1587 : decode cL_law 1587 = .ok (.iconst 2, 1) := by decide +kernel
theorem dL_law_1588 : decode cL_law 1588 = .ok (.iadd, 1) := by decide +kernel
theorem dL_law_1589 : decode cL_law 1589 = .ok (.iaload, 1) := by decide +kernel
theorem dL_law_1590 : decode cL_law 1590 = .ok (.invokevirtual 179, 3) := by decide +kernel
theorem dL_law_1593 : decode cL_law 1593 = .ok (.aload_n 2, 1) := by decide +kernel
theorem dL_law_1594 : decode cL_law 1594 = .ok (.aload_n 0, 1) := by decide +kernel
theorem dL_law_1595 : decode cL_law 1595 = .ok (.iload 4, 2) := by decide +kernel
theorem dL_law_1597 : decode cL_law 1597 = .ok (.iconst 1, 1) := by decide +kernel
theorem dL_law_1598 : decode cL_law 1598 = .ok (.iadd, 1) := by decide +kernel
theorem dL_law_1599 : decode cL_law 1599 = .ok (.iaload, 1) := by decide +kernel
theorem dL_law_1600 : decode cL_law 1600 = .ok (.aload_n 0, 1) := by decide +kernel
theorem dL_law_1601 : decode cL_law 1601 = .ok (.iload 4, 2) := by decide +kernel
theorem dL_law_1603 : decode cL_law 1603 = .ok (.iconst 2, 1) := by decide +kernel
theorem dL_law_1604 : decode cL_law 1604 = .ok (.iadd, 1) := by decide +kernel
theorem dL_law_1605 : decode cL_law 1605 = .ok (.iaload, 1) := by decide +kernel
theorem dL_law_1606 : decode cL_law 1606 = .ok (.invokevirtual 182, 3) := by decide +kernel
theorem dL_law_1609 : decode cL_law 1609 = .ok (.if_icmp .eq 67, 3) := by decide +kernel
theorem Lw_against {Inv Iny : xHp → xHp → Prop} {l : Launch} {X : xX} {b L : Nat} {xs : Nat → Int32} {n k t : Nat} {hx hm : xHp} {out : Nat → Int64} (hShp : ∀ hx hm, Inv hx hm → xShp hx hm) (hShq : ∀ hx hm, Iny hx hm → xShp hx hm) (hS : xSt Inv Iny l yX9_against yX10_against j9_against j10_against (fun as => as.length = 2)) (hW : xLw X b L xs) (hl : X.1.2.1 = l) (hI : Inv hx hm) (ht : 6 * t + 6 ≤ L) (hL : L ≤ 3072) (hn : n + 1101 ≤ 601024) (hk : k + 6606 ≤ 7293034) (kk : xLwK Iny l X b L xs n k t) : xV jL_law X n k (hLw hx hm out) 1577 [(4, .int (Int32.ofNat (6 * t))), (0, .ref 2000), (1, .ref 0), (2, .ref 81), (3, .ref 101)] [] := by
  obtain ⟨hlx, hlm, ⟨fx, hx0⟩, ⟨fm, hm0⟩, hsx⟩ := hShp hx hm hI
  refine xV_aload_n 1578 rfl dL_law_1577 rfl 2 rfl ?_
  refine xV_aload_n 1579 rfl dL_law_1578 rfl 1 rfl ?_
  refine xV_iload 1581 rfl dL_law_1579 0 rfl ?_
  refine xV_iconst (v := 1) 1582 rfl dL_law_1581 (by decide) ?_
  refine xV_iadd 1583 rfl dL_law_1582 ?_
  refine xV_sld 1584 rfl hW dL_law_1583 (xArgI 1 (by decide) ht hL) (xArgJ 1 (by decide) ht hL) ?_
  refine xV_aload_n 1585 rfl dL_law_1584 rfl 1 rfl ?_
  refine xV_iload 1587 rfl dL_law_1585 0 rfl ?_
  refine xV_iconst (v := 2) 1588 rfl dL_law_1587 (by decide) ?_
  refine xV_iadd 1589 rfl dL_law_1588 ?_
  refine xV_sld 1590 rfl hW dL_law_1589 (xArgI 2 (by decide) ht hL) (xArgJ 2 (by decide) ht hL) ?_
  obtain ⟨v, hx2, hm2, hc9, hc10, hI2⟩ := hS [(xs (6 * t + 1)), (xs (6 * t + 2))] hx hm hI (by exact rfl)
  obtain ⟨hlx2, hlm2, ⟨fx2, hx02⟩, ⟨fm2, hm02⟩, hsx2⟩ := hShq hx2 hm2 hI2
  refine xV_pre (J := jL_law) (X := X) (pc := 1590) (h := hx) (h' := hx2) (t := hm.map (xe (fun j => 81 + j)) ++ [.inl (1, 1, .inr (.inl out))]) (rest := []) (av2 := [.int (xs (6 * t + 1)), .int (xs (6 * t + 2))]) 1593 rfl dL_law_1590 hl hc9 m9_against v9_against (List.mem_of_getElem? (i := 1262) (by decide +kernel)) (hlx2.trans hlx.symm) rfl (xAt0 hx0) rfl rfl (Nat.le_of_ble_eq_true rfl) (Nat.le_of_ble_eq_true rfl) (Nat.le_of_ble_eq_true rfl) ⟨xz1 hn, xz1 hk⟩ ?_
  refine xV_eq (n' := n) (k' := k) (Nat.add_zero n) (Nat.add_zero k) ?_
  show xV jL_law X n k (hLw hx2 hm out) 1593 [(4, .int (Int32.ofNat (6 * t))), (0, .ref 2000), (1, .ref 0), (2, .ref 81), (3, .ref 101)] [.int v]
  refine xV_aload_n 1594 rfl dL_law_1593 rfl 3 rfl ?_
  refine xV_aload_n 1595 rfl dL_law_1594 rfl 1 rfl ?_
  refine xV_iload 1597 rfl dL_law_1595 0 rfl ?_
  refine xV_iconst (v := 1) 1598 rfl dL_law_1597 (by decide) ?_
  refine xV_iadd 1599 rfl dL_law_1598 ?_
  refine xV_sld 1600 rfl hW dL_law_1599 (xArgI 1 (by decide) ht hL) (xArgJ 1 (by decide) ht hL) ?_
  refine xV_aload_n 1601 rfl dL_law_1600 rfl 1 rfl ?_
  refine xV_iload 1603 rfl dL_law_1601 0 rfl ?_
  refine xV_iconst (v := 2) 1604 rfl dL_law_1603 (by decide) ?_
  refine xV_iadd 1605 rfl dL_law_1604 ?_
  refine xV_sld 1606 rfl hW dL_law_1605 (xArgI 2 (by decide) ht hL) (xArgJ 2 (by decide) ht hL) ?_
  refine xV_mid (hx := hx2) (hm := hm) (hm' := hm2) (t := [.inl (1, 1, .inr (.inl out))]) (rest := [.int v]) (av2 := [.int (xs (6 * t + 1)), .int (xs (6 * t + 2))]) 81 hlx2 1609 rfl dL_law_1606 hl hc10 m10_against v10_against (List.mem_of_getElem? (i := 1267) (by decide +kernel)) (hlm2.trans hlm.symm) rfl rfl rfl hm0 rfl rfl (Nat.le_of_ble_eq_true rfl) (Nat.le_of_ble_eq_true rfl) (Nat.le_of_ble_eq_true rfl) ⟨xz1 hn, xz1 hk⟩ ?_
  refine xV_eq (n' := n) (k' := k) (Nat.add_zero n) (Nat.add_zero k) ?_
  show xV jL_law X n k (hLw hx2 hm2 out) 1609 [(4, .int (Int32.ofNat (6 * t))), (0, .ref 2000), (1, .ref 0), (2, .ref 81), (3, .ref 101)] [.int v, .int v]
  refine xV_icmp_eq (tgt := 1676) 1612 rfl dL_law_1609 (by decide) (fun _ => ?_) (fun hq => absurd rfl hq)
  exact kk X n k hx2 hm2 out hW hl (by omega) (by omega) hI2
theorem dL_law_1614 : decode cL_law 1614 = .ok (.aload_n 1, 1) := by decide +kernel
theorem dL_law_1615 : decode cL_law 1615 = .ok (.aload_n 0, 1) := by decide +kernel
theorem dL_law_1616 : decode cL_law 1616 = .ok (.iload 4, 2) := by decide +kernel
theorem dL_law_1618 : decode cL_law 1618 = .ok (.iconst 1, 1) := by decide +kernel
theorem dL_law_1619 : decode cL_law 1619 = .ok (.iadd, 1) := by decide +kernel
theorem dL_law_1620 : decode cL_law 1620 = .ok (.iaload, 1) := by decide +kernel
theorem dL_law_1621 : decode cL_law 1621 = .ok (.aload_n 0, 1) := by decide +kernel
theorem dL_law_1622 : decode cL_law 1622 = .ok (.iload 4, 2) := by decide +kernel
theorem dL_law_1624 : decode cL_law 1624 = .ok (.iconst 2, 1) := by decide +kernel
theorem dL_law_1625 : decode cL_law 1625 = .ok (.iadd, 1) := by decide +kernel
theorem dL_law_1626 : decode cL_law 1626 = .ok (.iaload, 1) := by decide +kernel
theorem dL_law_1627 : decode cL_law 1627 = .ok (.invokevirtual 183, 3) := by decide +kernel
theorem dL_law_1630 : decode cL_law 1630 = .ok (.aload_n 2, 1) := by decide +kernel
theorem dL_law_1631 : decode cL_law 1631 = .ok (.aload_n 0, 1) := by decide +kernel
theorem dL_law_1632 : decode cL_law 1632 = .ok (.iload 4, 2) := by decide +kernel
theorem dL_law_1634 : decode cL_law 1634 = .ok (.iconst 1, 1) := by decide +kernel
theorem dL_law_1635 : decode cL_law 1635 = .ok (.iadd, 1) := by decide +kernel
theorem dL_law_1636 : decode cL_law 1636 = .ok (.iaload, 1) := by decide +kernel
theorem dL_law_1637 : decode cL_law 1637 = .ok (.aload_n 0, 1) := by decide +kernel
theorem dL_law_1638 : decode cL_law 1638 = .ok (.iload 4, 2) := by decide +kernel
theorem dL_law_1640 : decode cL_law 1640 = .ok (.iconst 2, 1) := by decide +kernel
theorem dL_law_1641 : decode cL_law 1641 = .ok (.iadd, 1) := by decide +kernel
theorem dL_law_1642 : decode cL_law 1642 = .ok (.iaload, 1) := by decide +kernel
theorem dL_law_1643 : decode cL_law 1643 = .ok (.invokevirtual 186, 3) := by decide +kernel
theorem dL_law_1646 : decode cL_law 1646 = .ok (.if_icmp .eq 30, 3) := by decide +kernel
theorem Lw_apart {Inv Iny : xHp → xHp → Prop} {l : Launch} {X : xX} {b L : Nat} {xs : Nat → Int32} {n k t : Nat} {hx hm : xHp} {out : Nat → Int64} (hShp : ∀ hx hm, Inv hx hm → xShp hx hm) (hShq : ∀ hx hm, Iny hx hm → xShp hx hm) (hS : xSt Inv Iny l yX9_apart yX10_apart j9_apart j10_apart (fun as => as.length = 2)) (hW : xLw X b L xs) (hl : X.1.2.1 = l) (hI : Inv hx hm) (ht : 6 * t + 6 ≤ L) (hL : L ≤ 3072) (hn : n + 1101 ≤ 601024) (hk : k + 6606 ≤ 7293034) (kk : xLwK Iny l X b L xs n k t) : xV jL_law X n k (hLw hx hm out) 1614 [(4, .int (Int32.ofNat (6 * t))), (0, .ref 2000), (1, .ref 0), (2, .ref 81), (3, .ref 101)] [] := by
  obtain ⟨hlx, hlm, ⟨fx, hx0⟩, ⟨fm, hm0⟩, hsx⟩ := hShp hx hm hI
  refine xV_aload_n 1615 rfl dL_law_1614 rfl 2 rfl ?_
  refine xV_aload_n 1616 rfl dL_law_1615 rfl 1 rfl ?_
  refine xV_iload 1618 rfl dL_law_1616 0 rfl ?_
  refine xV_iconst (v := 1) 1619 rfl dL_law_1618 (by decide) ?_
  refine xV_iadd 1620 rfl dL_law_1619 ?_
  refine xV_sld 1621 rfl hW dL_law_1620 (xArgI 1 (by decide) ht hL) (xArgJ 1 (by decide) ht hL) ?_
  refine xV_aload_n 1622 rfl dL_law_1621 rfl 1 rfl ?_
  refine xV_iload 1624 rfl dL_law_1622 0 rfl ?_
  refine xV_iconst (v := 2) 1625 rfl dL_law_1624 (by decide) ?_
  refine xV_iadd 1626 rfl dL_law_1625 ?_
  refine xV_sld 1627 rfl hW dL_law_1626 (xArgI 2 (by decide) ht hL) (xArgJ 2 (by decide) ht hL) ?_
  obtain ⟨v, hx2, hm2, hc9, hc10, hI2⟩ := hS [(xs (6 * t + 1)), (xs (6 * t + 2))] hx hm hI (by exact rfl)
  obtain ⟨hlx2, hlm2, ⟨fx2, hx02⟩, ⟨fm2, hm02⟩, hsx2⟩ := hShq hx2 hm2 hI2
  refine xV_pre (J := jL_law) (X := X) (pc := 1627) (h := hx) (h' := hx2) (t := hm.map (xe (fun j => 81 + j)) ++ [.inl (1, 1, .inr (.inl out))]) (rest := []) (av2 := [.int (xs (6 * t + 1)), .int (xs (6 * t + 2))]) 1630 rfl dL_law_1627 hl hc9 m9_apart v9_apart (List.mem_of_getElem? (i := 1275) (by decide +kernel)) (hlx2.trans hlx.symm) rfl (xAt0 hx0) rfl rfl (Nat.le_of_ble_eq_true rfl) (Nat.le_of_ble_eq_true rfl) (Nat.le_of_ble_eq_true rfl) ⟨xz1 hn, xz1 hk⟩ ?_
  refine xV_eq (n' := n) (k' := k) (Nat.add_zero n) (Nat.add_zero k) ?_
  show xV jL_law X n k (hLw hx2 hm out) 1630 [(4, .int (Int32.ofNat (6 * t))), (0, .ref 2000), (1, .ref 0), (2, .ref 81), (3, .ref 101)] [.int v]
  refine xV_aload_n 1631 rfl dL_law_1630 rfl 3 rfl ?_
  refine xV_aload_n 1632 rfl dL_law_1631 rfl 1 rfl ?_
  refine xV_iload 1634 rfl dL_law_1632 0 rfl ?_
  refine xV_iconst (v := 1) 1635 rfl dL_law_1634 (by decide) ?_
  refine xV_iadd 1636 rfl dL_law_1635 ?_
  refine xV_sld 1637 rfl hW dL_law_1636 (xArgI 1 (by decide) ht hL) (xArgJ 1 (by decide) ht hL) ?_
  refine xV_aload_n 1638 rfl dL_law_1637 rfl 1 rfl ?_
  refine xV_iload 1640 rfl dL_law_1638 0 rfl ?_
  refine xV_iconst (v := 2) 1641 rfl dL_law_1640 (by decide) ?_
  refine xV_iadd 1642 rfl dL_law_1641 ?_
  refine xV_sld 1643 rfl hW dL_law_1642 (xArgI 2 (by decide) ht hL) (xArgJ 2 (by decide) ht hL) ?_
  refine xV_mid (hx := hx2) (hm := hm) (hm' := hm2) (t := [.inl (1, 1, .inr (.inl out))]) (rest := [.int v]) (av2 := [.int (xs (6 * t + 1)), .int (xs (6 * t + 2))]) 81 hlx2 1646 rfl dL_law_1643 hl hc10 m10_apart v10_apart (List.mem_of_getElem? (i := 1287) (by decide +kernel)) (hlm2.trans hlm.symm) rfl rfl rfl hm0 rfl rfl (Nat.le_of_ble_eq_true rfl) (Nat.le_of_ble_eq_true rfl) (Nat.le_of_ble_eq_true rfl) ⟨xz1 hn, xz1 hk⟩ ?_
  refine xV_eq (n' := n) (k' := k) (Nat.add_zero n) (Nat.add_zero k) ?_
  show xV jL_law X n k (hLw hx2 hm2 out) 1646 [(4, .int (Int32.ofNat (6 * t))), (0, .ref 2000), (1, .ref 0), (2, .ref 81), (3, .ref 101)] [.int v, .int v]
  refine xV_icmp_eq (tgt := 1676) 1649 rfl dL_law_1646 (by decide) (fun _ => ?_) (fun hq => absurd rfl hq)
  exact kk X n k hx2 hm2 out hW hl (by omega) (by omega) hI2
theorem dL_law_1651 : decode cL_law 1651 = .ok (.aload_n 1, 1) := by decide +kernel
theorem dL_law_1652 : decode cL_law 1652 = .ok (.aload_n 0, 1) := by decide +kernel
theorem dL_law_1653 : decode cL_law 1653 = .ok (.iload 4, 2) := by decide +kernel
theorem dL_law_1655 : decode cL_law 1655 = .ok (.iconst 1, 1) := by decide +kernel
theorem dL_law_1656 : decode cL_law 1656 = .ok (.iadd, 1) := by decide +kernel
theorem dL_law_1657 : decode cL_law 1657 = .ok (.iaload, 1) := by decide +kernel
theorem dL_law_1658 : decode cL_law 1658 = .ok (.invokevirtual 187, 3) := by decide +kernel
theorem dL_law_1661 : decode cL_law 1661 = .ok (.aload_n 2, 1) := by decide +kernel
theorem dL_law_1662 : decode cL_law 1662 = .ok (.aload_n 0, 1) := by decide +kernel
theorem dL_law_1663 : decode cL_law 1663 = .ok (.iload 4, 2) := by decide +kernel
theorem dL_law_1665 : decode cL_law 1665 = .ok (.iconst 1, 1) := by decide +kernel
theorem dL_law_1666 : decode cL_law 1666 = .ok (.iadd, 1) := by decide +kernel
theorem dL_law_1667 : decode cL_law 1667 = .ok (.iaload, 1) := by decide +kernel
theorem dL_law_1668 : decode cL_law 1668 = .ok (.invokevirtual 190, 3) := by decide +kernel
theorem dL_law_1671 : decode cL_law 1671 = .ok (.if_icmp .eq 5, 3) := by decide +kernel
theorem Lw_count {Inv Iny : xHp → xHp → Prop} {l : Launch} {X : xX} {b L : Nat} {xs : Nat → Int32} {n k t : Nat} {hx hm : xHp} {out : Nat → Int64} (hShp : ∀ hx hm, Inv hx hm → xShp hx hm) (hShq : ∀ hx hm, Iny hx hm → xShp hx hm) (hS : xSt Inv Iny l yX9_count yX10_count j9_count j10_count (fun as => as.length = 1)) (hW : xLw X b L xs) (hl : X.1.2.1 = l) (hI : Inv hx hm) (ht : 6 * t + 6 ≤ L) (hL : L ≤ 3072) (hn : n + 1101 ≤ 601024) (hk : k + 6606 ≤ 7293034) (kk : xLwK Iny l X b L xs n k t) : xV jL_law X n k (hLw hx hm out) 1651 [(4, .int (Int32.ofNat (6 * t))), (0, .ref 2000), (1, .ref 0), (2, .ref 81), (3, .ref 101)] [] := by
  obtain ⟨hlx, hlm, ⟨fx, hx0⟩, ⟨fm, hm0⟩, hsx⟩ := hShp hx hm hI
  refine xV_aload_n 1652 rfl dL_law_1651 rfl 2 rfl ?_
  refine xV_aload_n 1653 rfl dL_law_1652 rfl 1 rfl ?_
  refine xV_iload 1655 rfl dL_law_1653 0 rfl ?_
  refine xV_iconst (v := 1) 1656 rfl dL_law_1655 (by decide) ?_
  refine xV_iadd 1657 rfl dL_law_1656 ?_
  refine xV_sld 1658 rfl hW dL_law_1657 (xArgI 1 (by decide) ht hL) (xArgJ 1 (by decide) ht hL) ?_
  obtain ⟨v, hx2, hm2, hc9, hc10, hI2⟩ := hS [(xs (6 * t + 1))] hx hm hI (by exact rfl)
  obtain ⟨hlx2, hlm2, ⟨fx2, hx02⟩, ⟨fm2, hm02⟩, hsx2⟩ := hShq hx2 hm2 hI2
  refine xV_pre (J := jL_law) (X := X) (pc := 1658) (h := hx) (h' := hx2) (t := hm.map (xe (fun j => 81 + j)) ++ [.inl (1, 1, .inr (.inl out))]) (rest := []) (av2 := [.int (xs (6 * t + 1))]) 1661 rfl dL_law_1658 hl hc9 m9_count v9_count (List.mem_of_getElem? (i := 1293) (by decide +kernel)) (hlx2.trans hlx.symm) rfl (xAt0 hx0) rfl rfl (Nat.le_of_ble_eq_true rfl) (Nat.le_of_ble_eq_true rfl) (Nat.le_of_ble_eq_true rfl) ⟨xz1 hn, xz1 hk⟩ ?_
  refine xV_eq (n' := n) (k' := k) (Nat.add_zero n) (Nat.add_zero k) ?_
  show xV jL_law X n k (hLw hx2 hm out) 1661 [(4, .int (Int32.ofNat (6 * t))), (0, .ref 2000), (1, .ref 0), (2, .ref 81), (3, .ref 101)] [.int v]
  refine xV_aload_n 1662 rfl dL_law_1661 rfl 3 rfl ?_
  refine xV_aload_n 1663 rfl dL_law_1662 rfl 1 rfl ?_
  refine xV_iload 1665 rfl dL_law_1663 0 rfl ?_
  refine xV_iconst (v := 1) 1666 rfl dL_law_1665 (by decide) ?_
  refine xV_iadd 1667 rfl dL_law_1666 ?_
  refine xV_sld 1668 rfl hW dL_law_1667 (xArgI 1 (by decide) ht hL) (xArgJ 1 (by decide) ht hL) ?_
  refine xV_mid (hx := hx2) (hm := hm) (hm' := hm2) (t := [.inl (1, 1, .inr (.inl out))]) (rest := [.int v]) (av2 := [.int (xs (6 * t + 1))]) 81 hlx2 1671 rfl dL_law_1668 hl hc10 m10_count v10_count (List.mem_of_getElem? (i := 1301) (by decide +kernel)) (hlm2.trans hlm.symm) rfl rfl rfl hm0 rfl rfl (Nat.le_of_ble_eq_true rfl) (Nat.le_of_ble_eq_true rfl) (Nat.le_of_ble_eq_true rfl) ⟨xz1 hn, xz1 hk⟩ ?_
  refine xV_eq (n' := n) (k' := k) (Nat.add_zero n) (Nat.add_zero k) ?_
  show xV jL_law X n k (hLw hx2 hm2 out) 1671 [(4, .int (Int32.ofNat (6 * t))), (0, .ref 2000), (1, .ref 0), (2, .ref 81), (3, .ref 101)] [.int v, .int v]
  refine xV_icmp_eq (tgt := 1676) 1674 rfl dL_law_1671 (by decide) (fun _ => ?_) (fun hq => absurd rfl hq)
  exact kk X n k hx2 hm2 out hW hl (by omega) (by omega) hI2
