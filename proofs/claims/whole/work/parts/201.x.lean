theorem xy_b24 : (Int8.ofInt (24)).toInt32 = (24 : Int32) := by decide
theorem xy_s300 : (Int16.ofInt (300)).toInt32 = (300 : Int32) := by decide
theorem xy_s255 : (Int16.ofInt (255)).toInt32 = (255 : Int32) := by decide
theorem xy_im8 : Int32.ofInt (-8) = (-8 : Int32) := by decide
theorem f7_15 : xFl RX7 15 7 1 := ⟨_, rfl, by decide, List.mem_of_getElem? (i := 178) (by decide +kernel)⟩
theorem f7_9 : xFl RX7 9 7 0 := ⟨_, rfl, by decide, List.mem_of_getElem? (i := 88) (by decide +kernel)⟩
theorem nf7_1 : ∀ q : vw_C, vwCl[7]? = some q → (q.2.1 1).2.2.2 = false := fun q e => by cases e; rfl
theorem dX7_put_0 : decode cX7_put 0 = .ok (.bipush 24, 2) := by decide +kernel
theorem dX7_put_2 : decode cX7_put 2 = .ok (.istore_n 2, 1) := by decide +kernel
theorem dX7_put_3 : decode cX7_put 3 = .ok (.iload_n 2, 1) := by decide +kernel
theorem dX7_put_4 : decode cX7_put 4 = .ok (.ifCond .lt 45, 3) := by decide +kernel
theorem dX7_put_7 : decode cX7_put 7 = .ok (.aload_n 0, 1) := by decide +kernel
theorem dX7_put_8 : decode cX7_put 8 = .ok (.getfield 15, 3) := by decide +kernel
theorem dX7_put_11 : decode cX7_put 11 = .ok (.sipush 300, 3) := by decide +kernel
theorem dX7_put_14 : decode cX7_put 14 = .ok (.if_icmp .ge 35, 3) := by decide +kernel
theorem dX7_put_17 : decode cX7_put 17 = .ok (.aload_n 0, 1) := by decide +kernel
theorem dX7_put_18 : decode cX7_put 18 = .ok (.getfield 9, 3) := by decide +kernel
theorem dX7_put_21 : decode cX7_put 21 = .ok (.aload_n 0, 1) := by decide +kernel
theorem dX7_put_22 : decode cX7_put 22 = .ok (.getfield 15, 3) := by decide +kernel
theorem dX7_put_25 : decode cX7_put 25 = .ok (.iload_n 1, 1) := by decide +kernel
theorem dX7_put_26 : decode cX7_put 26 = .ok (.iload_n 2, 1) := by decide +kernel
theorem dX7_put_27 : decode cX7_put 27 = .ok (.iushr, 1) := by decide +kernel
theorem dX7_put_28 : decode cX7_put 28 = .ok (.sipush 255, 3) := by decide +kernel
theorem dX7_put_31 : decode cX7_put 31 = .ok (.iand, 1) := by decide +kernel
theorem dX7_put_32 : decode cX7_put 32 = .ok (.iastore, 1) := by decide +kernel
theorem dX7_put_33 : decode cX7_put 33 = .ok (.aload_n 0, 1) := by decide +kernel
theorem dX7_put_34 : decode cX7_put 34 = .ok (.dup, 1) := by decide +kernel
theorem dX7_put_35 : decode cX7_put 35 = .ok (.getfield 15, 3) := by decide +kernel
theorem dX7_put_38 : decode cX7_put 38 = .ok (.iconst 1, 1) := by decide +kernel
theorem dX7_put_39 : decode cX7_put 39 = .ok (.iadd, 1) := by decide +kernel
theorem dX7_put_40 : decode cX7_put 40 = .ok (.putfield 15, 3) := by decide +kernel
theorem dX7_put_43 : decode cX7_put 43 = .ok (.iinc 2 (-8), 3) := by decide +kernel
theorem dX7_put_46 : decode cX7_put 46 = .ok (.goto (-43), 3) := by decide +kernel
theorem dX7_put_49 : decode cX7_put 49 = .ok (.return_, 1) := by decide +kernel
abbrev j7_put : xJ := (cX7_put, 3, RX7, 1, 0, 0)
def F7_put_b3 (z : Nat) (w : Nat) (x1 : Int32) (x2 : Int32) (c_bytes : (Nat → Int32)) (c_many : Int32) : Option ((Nat → Int32) × Int32) := match w with
  | 0 => none
  | w + 1 => if x2 < 0 then (some (c_bytes, c_many)) else (if (300 : Int32) ≤ c_many then (some (c_bytes, c_many)) else (xg (xin c_many 300) (F7_put_b3 z w x1 (x2 + (-8 : Int32)) (upd c_bytes (xn c_many) (((x1).toUInt32 >>> ((x2).toUInt32 &&& Int32.toUInt32 31)).toInt32 &&& (255 : Int32))) (c_many + (1 : Int32)))))
theorem T7_put_b3 {X : xX} {c_kind : Int32} {c_from : Int32} {c_behind : Int32} {c_end : Int32} {z : Nat} {v : (Nat → Int32) × Int32} (hX : xIs (j7_put) X none none (hT v.1 v.2 c_kind c_from c_behind c_end)) : ∀ (w : Nat) {x1 : Int32} {x2 : Int32} {c_bytes : (Nat → Int32)} {c_many : Int32}, F7_put_b3 z w x1 x2 c_bytes c_many = some v → xV (j7_put) X 0 0 (hT c_bytes c_many c_kind c_from c_behind c_end) 3 [(0, .ref 0), (1, .int x1), (2, .int x2)] [] := by
  intro w
  induction w with
  | zero => intro x1 x2 c_bytes c_many hf; cases hf
  | succ w ih =>
    intro x1 x2 c_bytes c_many hf
    unfold F7_put_b3 at hf
    refine xV_iload_n 4 rfl dX7_put_3 rfl 2 rfl ?_
    refine xV_if_lt (tgt := 49) 7 rfl dX7_put_4 (by decide) (fun h4 => ?_) (fun h4 => ?_)
    · have hf := xif_t hf h4
      obtain rfl := Option.some.inj hf
      exact xV_vret hX dX7_put_49 (Nat.zero_le _) (Nat.zero_le _)
    · have hf := xif_f hf h4
      refine xV_aload_n 8 rfl dX7_put_7 rfl 0 rfl ?_
      refine xV_get (v := .int c_many) 11 rfl dX7_put_8 f7_15 rfl rfl ?_
      refine xV_sipush 14 rfl dX7_put_11 xy_s300 ?_
      refine xV_icmp_ge (tgt := 49) 17 rfl dX7_put_14 (by decide) (fun h14 => ?_) (fun h14 => ?_)
      · have hf := xif_t hf h14
        obtain rfl := Option.some.inj hf
        exact xV_vret hX dX7_put_49 (Nat.zero_le _) (Nat.zero_le _)
      · have hf := xif_f hf h14
        refine xV_aload_n 18 rfl dX7_put_17 rfl 0 rfl ?_
        refine xV_get (v := .ref 1) 21 rfl dX7_put_18 f7_9 rfl rfl ?_
        refine xV_aload_n 22 rfl dX7_put_21 rfl 0 rfl ?_
        refine xV_get (v := .int c_many) 25 rfl dX7_put_22 f7_15 rfl rfl ?_
        refine xV_iload_n 26 rfl dX7_put_25 rfl 1 rfl ?_
        refine xV_iload_n 27 rfl dX7_put_26 rfl 2 rfl ?_
        refine xV_iushr 28 rfl dX7_put_27 ?_
        refine xV_sipush 31 rfl dX7_put_28 xy_s255 ?_
        refine xV_iand 32 rfl dX7_put_31 ?_
        obtain ⟨hg32, hf⟩ := xg_s hf
        refine xV_iastore (h' := (hT (upd c_bytes (xn c_many) (((x1).toUInt32 >>> ((x2).toUInt32 &&& Int32.toUInt32 31)).toInt32 &&& (255 : Int32))) c_many c_kind c_from c_behind c_end)) (j := (xn c_many)) 33 rfl dX7_put_32 rfl (xin_ok hg32) rfl rfl ?_
        refine xV_aload_n 34 rfl dX7_put_33 rfl 0 rfl ?_
        refine xV_dup 35 rfl dX7_put_34 rfl ?_
        refine xV_get (v := .int c_many) 38 rfl dX7_put_35 f7_15 rfl rfl ?_
        refine xV_iconst 39 rfl dX7_put_38 xy_i1 ?_
        refine xV_iadd 40 rfl dX7_put_39 ?_
        refine xV_put (h' := (hT (upd c_bytes (xn c_many) (((x1).toUInt32 >>> ((x2).toUInt32 &&& Int32.toUInt32 31)).toInt32 &&& (255 : Int32))) (c_many + (1 : Int32)) c_kind c_from c_behind c_end)) 43 rfl dX7_put_40 f7_15 rfl nf7_1 (fun _ => rfl) (fun _ => rfl) (Nat.le_of_ble_eq_true rfl) rfl ?_
        refine xV_iinc (L' := [(2, .int (x2 + (-8 : Int32))), (0, .ref 0), (1, .int x1)]) 46 rfl dX7_put_43 2 rfl (xk_inc xy_im8) (xlt rfl) rfl ?_
        refine xV_goto (tgt := 3) dX7_put_46 (by decide) ?_
        refine xV_sub [1, 2, 0] rfl ?_
        exact ih hf
def F7_put (z : Nat) (x1 : Int32) (c_bytes : (Nat → Int32)) (c_many : Int32) : Option ((Nat → Int32) × Int32) :=
  F7_put_b3 z z x1 (24 : Int32) c_bytes c_many
theorem T7_put {X : xX} {z : Nat} {x1 : Int32} {c_bytes : (Nat → Int32)} {c_many : Int32} {c_kind : Int32} {c_from : Int32} {c_behind : Int32} {c_end : Int32} {v : (Nat → Int32) × Int32} (hX : xIs (j7_put) X none none (hT v.1 v.2 c_kind c_from c_behind c_end)) (hf : F7_put z x1 c_bytes c_many = some v) : xV (j7_put) X 0 0 (hT c_bytes c_many c_kind c_from c_behind c_end) 0 [(0, .ref 0), (1, .int x1)] [] := by
  unfold F7_put at hf
  refine xV_bipush 2 rfl dX7_put_0 xy_b24 ?_
  refine xV_istore_n (L' := [(2, .int (24 : Int32)), (0, .ref 0), (1, .int x1)]) 3 rfl dX7_put_2 rfl (xlt rfl) rfl ?_
  refine xV_sub [1, 2, 0] rfl ?_
  exact T7_put_b3 hX _ hf
theorem C7_put (l : Launch) {z : Nat} {x1 : Int32} {c_bytes : (Nat → Int32)} {c_many : Int32} {c_kind : Int32} {c_from : Int32} {c_behind : Int32} {c_end : Int32} {v : (Nat → Int32) × Int32} (hf : F7_put z x1 c_bytes c_many = some v) : xCt l yX7_put none j7_put [.ref 0, .int x1] (hT c_bytes c_many c_kind c_from c_behind c_end) none (hT v.1 v.2 c_kind c_from c_behind c_end) := xCt_of (by decide) rfl (Nat.le_of_ble_eq_true rfl) (fun _ hX => T7_put hX hf)
theorem m7_put : xMd yX7_put RX7 none j7_put 1 := ⟨List.mem_of_getElem? (i := 177) (by decide +kernel), List.mem_of_getElem? (i := 81) (by decide +kernel), rfl, by decide +kernel⟩
theorem v7_put : xMv yX7_put RX7 := ⟨List.mem_of_getElem? (i := 175) (by decide +kernel), List.mem_of_getElem? (i := 176) (by decide +kernel)⟩
theorem f7_28 : xFl RX7 28 7 4 := ⟨_, rfl, by decide, List.mem_of_getElem? (i := 234) (by decide +kernel)⟩
theorem f7_25 : xFl RX7 25 7 5 := ⟨_, rfl, by decide, List.mem_of_getElem? (i := 233) (by decide +kernel)⟩
theorem nf7_4 : ∀ q : vw_C, vwCl[7]? = some q → (q.2.1 4).2.2.2 = false := fun q e => by cases e; rfl
theorem f7_34 : xFl RX7 34 7 3 := ⟨_, rfl, by decide, List.mem_of_getElem? (i := 239) (by decide +kernel)⟩
theorem dX7_skip_0 : decode cX7_skip 0 = .ok (.aload_n 0, 1) := by decide +kernel
theorem dX7_skip_1 : decode cX7_skip 1 = .ok (.getfield 28, 3) := by decide +kernel
theorem dX7_skip_4 : decode cX7_skip 4 = .ok (.aload_n 0, 1) := by decide +kernel
theorem dX7_skip_5 : decode cX7_skip 5 = .ok (.getfield 25, 3) := by decide +kernel
theorem dX7_skip_8 : decode cX7_skip 8 = .ok (.if_icmp .ge 42, 3) := by decide +kernel
theorem dX7_skip_11 : decode cX7_skip 11 = .ok (.aload_n 0, 1) := by decide +kernel
theorem dX7_skip_12 : decode cX7_skip 12 = .ok (.getfield 9, 3) := by decide +kernel
theorem dX7_skip_15 : decode cX7_skip 15 = .ok (.aload_n 0, 1) := by decide +kernel
theorem dX7_skip_16 : decode cX7_skip 16 = .ok (.getfield 28, 3) := by decide +kernel
theorem dX7_skip_19 : decode cX7_skip 19 = .ok (.iaload, 1) := by decide +kernel
theorem dX7_skip_20 : decode cX7_skip 20 = .ok (.iload_n 1, 1) := by decide +kernel
theorem dX7_skip_21 : decode cX7_skip 21 = .ok (.if_icmp .lt 29, 3) := by decide +kernel
theorem dX7_skip_24 : decode cX7_skip 24 = .ok (.aload_n 0, 1) := by decide +kernel
theorem dX7_skip_25 : decode cX7_skip 25 = .ok (.getfield 9, 3) := by decide +kernel
theorem dX7_skip_28 : decode cX7_skip 28 = .ok (.aload_n 0, 1) := by decide +kernel
theorem dX7_skip_29 : decode cX7_skip 29 = .ok (.getfield 28, 3) := by decide +kernel
theorem dX7_skip_32 : decode cX7_skip 32 = .ok (.iaload, 1) := by decide +kernel
theorem dX7_skip_33 : decode cX7_skip 33 = .ok (.iload_n 2, 1) := by decide +kernel
theorem dX7_skip_34 : decode cX7_skip 34 = .ok (.if_icmp .gt 16, 3) := by decide +kernel
theorem dX7_skip_37 : decode cX7_skip 37 = .ok (.aload_n 0, 1) := by decide +kernel
theorem dX7_skip_38 : decode cX7_skip 38 = .ok (.dup, 1) := by decide +kernel
theorem dX7_skip_39 : decode cX7_skip 39 = .ok (.getfield 28, 3) := by decide +kernel
theorem dX7_skip_42 : decode cX7_skip 42 = .ok (.iconst 1, 1) := by decide +kernel
theorem dX7_skip_43 : decode cX7_skip 43 = .ok (.iadd, 1) := by decide +kernel
theorem dX7_skip_44 : decode cX7_skip 44 = .ok (.putfield 28, 3) := by decide +kernel
theorem dX7_skip_47 : decode cX7_skip 47 = .ok (.goto (-47), 3) := by decide +kernel
theorem dX7_skip_50 : decode cX7_skip 50 = .ok (.aload_n 0, 1) := by decide +kernel
theorem dX7_skip_51 : decode cX7_skip 51 = .ok (.getfield 28, 3) := by decide +kernel
theorem dX7_skip_54 : decode cX7_skip 54 = .ok (.aload_n 0, 1) := by decide +kernel
theorem dX7_skip_55 : decode cX7_skip 55 = .ok (.getfield 34, 3) := by decide +kernel
theorem dX7_skip_58 : decode cX7_skip 58 = .ok (.if_icmp .le 7, 3) := by decide +kernel
theorem dX7_skip_61 : decode cX7_skip 61 = .ok (.iconst 1, 1) := by decide +kernel
theorem dX7_skip_62 : decode cX7_skip 62 = .ok (.goto 4, 3) := by decide +kernel
theorem dX7_skip_65 : decode cX7_skip 65 = .ok (.iconst 0, 1) := by decide +kernel
theorem dX7_skip_66 : decode cX7_skip 66 = .ok (.ireturn, 1) := by decide +kernel
abbrev j7_skip : xJ := (cX7_skip, 3, RX7, 1, 0, 0)
def F7_skip_b50 (z : Nat) (c_bytes : (Nat → Int32)) (c_from : Int32) (c_behind : Int32) (c_end : Int32) : Option (Int32 × Int32) :=
  if c_behind ≤ c_from then (some ((0 : Int32), c_behind)) else (some ((1 : Int32), c_behind))
theorem T7_skip_b50 {X : xX} {c_many : Int32} {c_kind : Int32} {c_bytes : (Nat → Int32)} {c_from : Int32} {c_behind : Int32} {c_end : Int32} {z : Nat} {v : Int32 × Int32} (hX : xIs (j7_skip) X ((some .boolean)) (some (.int v.1)) (hT c_bytes c_many c_kind c_from v.2 c_end)) (hf : F7_skip_b50 z c_bytes c_from c_behind c_end = some v) : xV (j7_skip) X 0 0 (hT c_bytes c_many c_kind c_from c_behind c_end) 50 [(0, .ref 0)] [] := by
  unfold F7_skip_b50 at hf
  refine xV_aload_n 51 rfl dX7_skip_50 rfl 0 rfl ?_
  refine xV_get (v := .int c_behind) 54 rfl dX7_skip_51 f7_28 rfl rfl ?_
  refine xV_aload_n 55 rfl dX7_skip_54 rfl 0 rfl ?_
  refine xV_get (v := .int c_from) 58 rfl dX7_skip_55 f7_34 rfl rfl ?_
  refine xV_icmp_le (tgt := 65) 61 rfl dX7_skip_58 (by decide) (fun h58 => ?_) (fun h58 => ?_)
  · have hf := xif_t hf h58
    refine xV_iconst 66 rfl dX7_skip_65 xy_i0 ?_
    obtain rfl := Option.some.inj hf
    exact xV_iret hX dX7_skip_66 (xbo_ok rfl) (Nat.zero_le _) (Nat.zero_le _)
  · have hf := xif_f hf h58
    refine xV_iconst 62 rfl dX7_skip_61 xy_i1 ?_
    refine xV_goto (tgt := 66) dX7_skip_62 (by decide) ?_
    obtain rfl := Option.some.inj hf
    exact xV_iret hX dX7_skip_66 (xbo_ok rfl) (Nat.zero_le _) (Nat.zero_le _)
def F7_skip_b0 (z : Nat) (w : Nat) (x1 : Int32) (x2 : Int32) (c_bytes : (Nat → Int32)) (c_from : Int32) (c_behind : Int32) (c_end : Int32) : Option (Int32 × Int32) := match w with
  | 0 => none
  | w + 1 => if c_end ≤ c_behind then (F7_skip_b50 z c_bytes c_from c_behind c_end) else (xg (xin c_behind 300) (if (c_bytes (xn c_behind)) < x1 then (F7_skip_b50 z c_bytes c_from c_behind c_end) else (xg (xin c_behind 300) (if x2 < (c_bytes (xn c_behind)) then (F7_skip_b50 z c_bytes c_from c_behind c_end) else (F7_skip_b0 z w x1 x2 c_bytes c_from (c_behind + (1 : Int32)) c_end)))))
theorem T7_skip_b0 {X : xX} {c_bytes : (Nat → Int32)} {c_many : Int32} {c_kind : Int32} {c_from : Int32} {c_end : Int32} {z : Nat} {v : Int32 × Int32} (hX : xIs (j7_skip) X ((some .boolean)) (some (.int v.1)) (hT c_bytes c_many c_kind c_from v.2 c_end)) : ∀ (w : Nat) {x1 : Int32} {x2 : Int32} {c_behind : Int32}, F7_skip_b0 z w x1 x2 c_bytes c_from c_behind c_end = some v → xV (j7_skip) X 0 0 (hT c_bytes c_many c_kind c_from c_behind c_end) 0 [(0, .ref 0), (1, .int x1), (2, .int x2)] [] := by
  intro w
  induction w with
  | zero => intro x1 x2 c_behind hf; cases hf
  | succ w ih =>
    intro x1 x2 c_behind hf
    unfold F7_skip_b0 at hf
    refine xV_aload_n 1 rfl dX7_skip_0 rfl 0 rfl ?_
    refine xV_get (v := .int c_behind) 4 rfl dX7_skip_1 f7_28 rfl rfl ?_
    refine xV_aload_n 5 rfl dX7_skip_4 rfl 0 rfl ?_
    refine xV_get (v := .int c_end) 8 rfl dX7_skip_5 f7_25 rfl rfl ?_
    refine xV_icmp_ge (tgt := 50) 11 rfl dX7_skip_8 (by decide) (fun h8 => ?_) (fun h8 => ?_)
    · have hf := xif_t hf h8
      refine xV_sub [0] rfl ?_
      exact T7_skip_b50 hX hf
    · have hf := xif_f hf h8
      refine xV_aload_n 12 rfl dX7_skip_11 rfl 0 rfl ?_
      refine xV_get (v := .ref 1) 15 rfl dX7_skip_12 f7_9 rfl rfl ?_
      refine xV_aload_n 16 rfl dX7_skip_15 rfl 0 rfl ?_
      refine xV_get (v := .int c_behind) 19 rfl dX7_skip_16 f7_28 rfl rfl ?_
      obtain ⟨hg19, hf⟩ := xg_s hf
      refine xV_iaload 20 rfl dX7_skip_19 rfl (xin_ok hg19) rfl ?_
      refine xV_iload_n 21 rfl dX7_skip_20 rfl 1 rfl ?_
      refine xV_icmp_lt (tgt := 50) 24 rfl dX7_skip_21 (by decide) (fun h21 => ?_) (fun h21 => ?_)
      · have hf := xif_t hf h21
        refine xV_sub [0] rfl ?_
        exact T7_skip_b50 hX hf
      · have hf := xif_f hf h21
        refine xV_aload_n 25 rfl dX7_skip_24 rfl 0 rfl ?_
        refine xV_get (v := .ref 1) 28 rfl dX7_skip_25 f7_9 rfl rfl ?_
        refine xV_aload_n 29 rfl dX7_skip_28 rfl 0 rfl ?_
        refine xV_get (v := .int c_behind) 32 rfl dX7_skip_29 f7_28 rfl rfl ?_
        obtain ⟨hg32, hf⟩ := xg_s hf
        refine xV_iaload 33 rfl dX7_skip_32 rfl (xin_ok hg32) rfl ?_
        refine xV_iload_n 34 rfl dX7_skip_33 rfl 2 rfl ?_
        refine xV_icmp_gt (tgt := 50) 37 rfl dX7_skip_34 (by decide) (fun h34 => ?_) (fun h34 => ?_)
        · have hf := xif_t hf h34
          refine xV_sub [0] rfl ?_
          exact T7_skip_b50 hX hf
        · have hf := xif_f hf h34
          refine xV_aload_n 38 rfl dX7_skip_37 rfl 0 rfl ?_
          refine xV_dup 39 rfl dX7_skip_38 rfl ?_
          refine xV_get (v := .int c_behind) 42 rfl dX7_skip_39 f7_28 rfl rfl ?_
          refine xV_iconst 43 rfl dX7_skip_42 xy_i1 ?_
          refine xV_iadd 44 rfl dX7_skip_43 ?_
          refine xV_put (h' := (hT c_bytes c_many c_kind c_from (c_behind + (1 : Int32)) c_end)) 47 rfl dX7_skip_44 f7_28 rfl nf7_4 (fun _ => rfl) (fun _ => rfl) (Nat.le_of_ble_eq_true rfl) rfl ?_
          refine xV_goto (tgt := 0) dX7_skip_47 (by decide) ?_
          exact ih hf
def F7_skip (z : Nat) (x1 : Int32) (x2 : Int32) (c_bytes : (Nat → Int32)) (c_from : Int32) (c_behind : Int32) (c_end : Int32) : Option (Int32 × Int32) :=
  F7_skip_b0 z z x1 x2 c_bytes c_from c_behind c_end
theorem T7_skip {X : xX} {z : Nat} {x1 : Int32} {x2 : Int32} {c_bytes : (Nat → Int32)} {c_from : Int32} {c_behind : Int32} {c_end : Int32} {c_many : Int32} {c_kind : Int32} {v : Int32 × Int32} (hX : xIs (j7_skip) X ((some .boolean)) (some (.int v.1)) (hT c_bytes c_many c_kind c_from v.2 c_end)) (hf : F7_skip z x1 x2 c_bytes c_from c_behind c_end = some v) : xV (j7_skip) X 0 0 (hT c_bytes c_many c_kind c_from c_behind c_end) 0 [(0, .ref 0), (1, .int x1), (2, .int x2)] [] := by
  unfold F7_skip at hf
  exact T7_skip_b0 hX _ hf
theorem C7_skip (l : Launch) {z : Nat} {x1 : Int32} {x2 : Int32} {c_bytes : (Nat → Int32)} {c_from : Int32} {c_behind : Int32} {c_end : Int32} {c_many : Int32} {c_kind : Int32} {v : Int32 × Int32} (hf : F7_skip z x1 x2 c_bytes c_from c_behind c_end = some v) : xCt l yX7_skip ((some .boolean)) j7_skip [.ref 0, .int x1, .int x2] (hT c_bytes c_many c_kind c_from c_behind c_end) (some (.int v.1)) (hT c_bytes c_many c_kind c_from v.2 c_end) := xCt_of (by decide) rfl (Nat.le_of_ble_eq_true rfl) (fun _ hX => T7_skip hX hf)
theorem m7_skip : xMd yX7_skip RX7 ((some .boolean)) j7_skip 2 := ⟨List.mem_of_getElem? (i := 244) (by decide +kernel), List.mem_of_getElem? (i := 81) (by decide +kernel), rfl, by decide +kernel⟩
theorem v7_skip : xMv yX7_skip RX7 := ⟨List.mem_of_getElem? (i := 242) (by decide +kernel), List.mem_of_getElem? (i := 243) (by decide +kernel)⟩
theorem xy_b32 : (Int8.ofInt (32)).toInt32 = (32 : Int32) := by decide
theorem xy_b10 : (Int8.ofInt (10)).toInt32 = (10 : Int32) := by decide
theorem xy_b59 : (Int8.ofInt (59)).toInt32 = (59 : Int32) := by decide
theorem xy_i3 : Int32.ofInt (3) = (3 : Int32) := by decide
theorem xy_b97 : (Int8.ofInt (97)).toInt32 = (97 : Int32) := by decide
theorem xy_b122 : (Int8.ofInt (122)).toInt32 = (122 : Int32) := by decide
theorem xy_b48 : (Int8.ofInt (48)).toInt32 = (48 : Int32) := by decide
theorem xy_b57 : (Int8.ofInt (57)).toInt32 = (57 : Int32) := by decide
theorem xy_i4 : Int32.ofInt (4) = (4 : Int32) := by decide
theorem xy_i2 : Int32.ofInt (2) = (2 : Int32) := by decide
theorem nf7_3 : ∀ q : vw_C, vwCl[7]? = some q → (q.2.1 3).2.2.2 = false := fun q e => by cases e; rfl
theorem f7_37 : xFl RX7 37 7 2 := ⟨_, rfl, by decide, List.mem_of_getElem? (i := 240) (by decide +kernel)⟩
theorem nf7_2 : ∀ q : vw_C, vwCl[7]? = some q → (q.2.1 2).2.2.2 = false := fun q e => by cases e; rfl
theorem k7_40 : Cond.methodLink RX7 40 yX7_skip ∈ wsL_law0 := List.mem_of_getElem? (i := 241) (by decide +kernel)
theorem dX7_step_0 : decode cX7_step 0 = .ok (.aload_n 0, 1) := by decide +kernel
theorem dX7_step_1 : decode cX7_step 1 = .ok (.aload_n 0, 1) := by decide +kernel
theorem dX7_step_2 : decode cX7_step 2 = .ok (.getfield 28, 3) := by decide +kernel
theorem dX7_step_5 : decode cX7_step 5 = .ok (.putfield 34, 3) := by decide +kernel
theorem dX7_step_8 : decode cX7_step 8 = .ok (.aload_n 0, 1) := by decide +kernel
theorem dX7_step_9 : decode cX7_step 9 = .ok (.getfield 34, 3) := by decide +kernel
theorem dX7_step_12 : decode cX7_step 12 = .ok (.aload_n 0, 1) := by decide +kernel
theorem dX7_step_13 : decode cX7_step 13 = .ok (.getfield 25, 3) := by decide +kernel
theorem dX7_step_16 : decode cX7_step 16 = .ok (.if_icmp .ge 44, 3) := by decide +kernel
theorem dX7_step_19 : decode cX7_step 19 = .ok (.aload_n 0, 1) := by decide +kernel
theorem dX7_step_20 : decode cX7_step 20 = .ok (.getfield 9, 3) := by decide +kernel
theorem dX7_step_23 : decode cX7_step 23 = .ok (.aload_n 0, 1) := by decide +kernel
theorem dX7_step_24 : decode cX7_step 24 = .ok (.getfield 34, 3) := by decide +kernel
theorem dX7_step_27 : decode cX7_step 27 = .ok (.iaload, 1) := by decide +kernel
theorem dX7_step_28 : decode cX7_step 28 = .ok (.bipush 32, 2) := by decide +kernel
theorem dX7_step_30 : decode cX7_step 30 = .ok (.if_icmp .eq 17, 3) := by decide +kernel
theorem dX7_step_33 : decode cX7_step 33 = .ok (.aload_n 0, 1) := by decide +kernel
theorem dX7_step_34 : decode cX7_step 34 = .ok (.getfield 9, 3) := by decide +kernel
theorem dX7_step_37 : decode cX7_step 37 = .ok (.aload_n 0, 1) := by decide +kernel
theorem dX7_step_38 : decode cX7_step 38 = .ok (.getfield 34, 3) := by decide +kernel
theorem dX7_step_41 : decode cX7_step 41 = .ok (.iaload, 1) := by decide +kernel
theorem dX7_step_42 : decode cX7_step 42 = .ok (.bipush 10, 2) := by decide +kernel
theorem dX7_step_44 : decode cX7_step 44 = .ok (.if_icmp .ne 16, 3) := by decide +kernel
theorem dX7_step_47 : decode cX7_step 47 = .ok (.aload_n 0, 1) := by decide +kernel
theorem dX7_step_48 : decode cX7_step 48 = .ok (.dup, 1) := by decide +kernel
theorem dX7_step_49 : decode cX7_step 49 = .ok (.getfield 34, 3) := by decide +kernel
theorem dX7_step_52 : decode cX7_step 52 = .ok (.iconst 1, 1) := by decide +kernel
theorem dX7_step_53 : decode cX7_step 53 = .ok (.iadd, 1) := by decide +kernel
theorem dX7_step_54 : decode cX7_step 54 = .ok (.putfield 34, 3) := by decide +kernel
theorem dX7_step_57 : decode cX7_step 57 = .ok (.goto (-49), 3) := by decide +kernel
theorem dX7_step_60 : decode cX7_step 60 = .ok (.aload_n 0, 1) := by decide +kernel
theorem dX7_step_61 : decode cX7_step 61 = .ok (.aload_n 0, 1) := by decide +kernel
theorem dX7_step_62 : decode cX7_step 62 = .ok (.getfield 34, 3) := by decide +kernel
theorem dX7_step_65 : decode cX7_step 65 = .ok (.putfield 28, 3) := by decide +kernel
theorem dX7_step_68 : decode cX7_step 68 = .ok (.aload_n 0, 1) := by decide +kernel
theorem dX7_step_69 : decode cX7_step 69 = .ok (.getfield 34, 3) := by decide +kernel
theorem dX7_step_72 : decode cX7_step 72 = .ok (.aload_n 0, 1) := by decide +kernel
theorem dX7_step_73 : decode cX7_step 73 = .ok (.getfield 25, 3) := by decide +kernel
theorem dX7_step_76 : decode cX7_step 76 = .ok (.if_icmp .lt 11, 3) := by decide +kernel
theorem dX7_step_79 : decode cX7_step 79 = .ok (.aload_n 0, 1) := by decide +kernel
theorem dX7_step_80 : decode cX7_step 80 = .ok (.iconst 0, 1) := by decide +kernel
theorem dX7_step_81 : decode cX7_step 81 = .ok (.putfield 37, 3) := by decide +kernel
theorem dX7_step_84 : decode cX7_step 84 = .ok (.goto 95, 3) := by decide +kernel
theorem dX7_step_87 : decode cX7_step 87 = .ok (.aload_n 0, 1) := by decide +kernel
theorem dX7_step_88 : decode cX7_step 88 = .ok (.getfield 9, 3) := by decide +kernel
theorem dX7_step_91 : decode cX7_step 91 = .ok (.aload_n 0, 1) := by decide +kernel
theorem dX7_step_92 : decode cX7_step 92 = .ok (.getfield 34, 3) := by decide +kernel
theorem dX7_step_95 : decode cX7_step 95 = .ok (.iaload, 1) := by decide +kernel
theorem dX7_step_96 : decode cX7_step 96 = .ok (.bipush 59, 2) := by decide +kernel
theorem dX7_step_98 : decode cX7_step 98 = .ok (.if_icmp .ne 21, 3) := by decide +kernel
theorem dX7_step_101 : decode cX7_step 101 = .ok (.aload_n 0, 1) := by decide +kernel
theorem dX7_step_102 : decode cX7_step 102 = .ok (.iconst 3, 1) := by decide +kernel
theorem dX7_step_103 : decode cX7_step 103 = .ok (.putfield 37, 3) := by decide +kernel
theorem dX7_step_106 : decode cX7_step 106 = .ok (.aload_n 0, 1) := by decide +kernel
theorem dX7_step_107 : decode cX7_step 107 = .ok (.dup, 1) := by decide +kernel
theorem dX7_step_108 : decode cX7_step 108 = .ok (.getfield 28, 3) := by decide +kernel
theorem dX7_step_111 : decode cX7_step 111 = .ok (.iconst 1, 1) := by decide +kernel
theorem dX7_step_112 : decode cX7_step 112 = .ok (.iadd, 1) := by decide +kernel
theorem dX7_step_113 : decode cX7_step 113 = .ok (.putfield 28, 3) := by decide +kernel
theorem dX7_step_116 : decode cX7_step 116 = .ok (.goto 63, 3) := by decide +kernel
theorem dX7_step_119 : decode cX7_step 119 = .ok (.aload_n 0, 1) := by decide +kernel
theorem dX7_step_120 : decode cX7_step 120 = .ok (.bipush 97, 2) := by decide +kernel
theorem dX7_step_122 : decode cX7_step 122 = .ok (.bipush 122, 2) := by decide +kernel
theorem dX7_step_124 : decode cX7_step 124 = .ok (.invokevirtual 40, 3) := by decide +kernel
theorem dX7_step_127 : decode cX7_step 127 = .ok (.ifCond .eq 11, 3) := by decide +kernel
theorem dX7_step_130 : decode cX7_step 130 = .ok (.aload_n 0, 1) := by decide +kernel
theorem dX7_step_131 : decode cX7_step 131 = .ok (.iconst 1, 1) := by decide +kernel
theorem dX7_step_132 : decode cX7_step 132 = .ok (.putfield 37, 3) := by decide +kernel
theorem dX7_step_135 : decode cX7_step 135 = .ok (.goto 44, 3) := by decide +kernel
theorem dX7_step_138 : decode cX7_step 138 = .ok (.aload_n 0, 1) := by decide +kernel
theorem dX7_step_139 : decode cX7_step 139 = .ok (.bipush 48, 2) := by decide +kernel
theorem dX7_step_141 : decode cX7_step 141 = .ok (.bipush 57, 2) := by decide +kernel
theorem dX7_step_143 : decode cX7_step 143 = .ok (.invokevirtual 40, 3) := by decide +kernel
theorem dX7_step_146 : decode cX7_step 146 = .ok (.ifCond .eq 28, 3) := by decide +kernel
theorem dX7_step_149 : decode cX7_step 149 = .ok (.aload_n 0, 1) := by decide +kernel
theorem dX7_step_150 : decode cX7_step 150 = .ok (.aload_n 0, 1) := by decide +kernel
theorem dX7_step_151 : decode cX7_step 151 = .ok (.getfield 28, 3) := by decide +kernel
theorem dX7_step_154 : decode cX7_step 154 = .ok (.aload_n 0, 1) := by decide +kernel
theorem dX7_step_155 : decode cX7_step 155 = .ok (.getfield 34, 3) := by decide +kernel
theorem dX7_step_158 : decode cX7_step 158 = .ok (.isub, 1) := by decide +kernel
theorem dX7_step_159 : decode cX7_step 159 = .ok (.iconst 4, 1) := by decide +kernel
theorem dX7_step_160 : decode cX7_step 160 = .ok (.if_icmp .gt 7, 3) := by decide +kernel
theorem dX7_step_163 : decode cX7_step 163 = .ok (.iconst 2, 1) := by decide +kernel
theorem dX7_step_164 : decode cX7_step 164 = .ok (.goto 4, 3) := by decide +kernel
theorem dX7_step_167 : decode cX7_step 167 = .ok (.iconst 4, 1) := by decide +kernel
theorem dX7_step_168 : decode cX7_step 168 = .ok (.putfield 37, 3) := by decide +kernel
theorem dX7_step_171 : decode cX7_step 171 = .ok (.goto 8, 3) := by decide +kernel
theorem dX7_step_174 : decode cX7_step 174 = .ok (.aload_n 0, 1) := by decide +kernel
theorem dX7_step_175 : decode cX7_step 175 = .ok (.iconst 4, 1) := by decide +kernel
theorem dX7_step_176 : decode cX7_step 176 = .ok (.putfield 37, 3) := by decide +kernel
theorem dX7_step_179 : decode cX7_step 179 = .ok (.return_, 1) := by decide +kernel
abbrev j7_step : xJ := (cX7_step, 1, RX7, 2, 0, 0)
def F7_step_b168 (z : Nat) (s1 : Int32) (c_bytes : (Nat → Int32)) (c_kind : Int32) (c_from : Int32) (c_behind : Int32) (c_end : Int32) : Option (Int32 × Int32 × Int32) :=
  some (s1, c_from, c_behind)
theorem T7_step_b168 {X : xX} {c_many : Int32} {s1 : Int32} {c_bytes : (Nat → Int32)} {c_kind : Int32} {c_from : Int32} {c_behind : Int32} {c_end : Int32} {z : Nat} {v : Int32 × Int32 × Int32} (hX : xIs (j7_step) X none none (hT c_bytes c_many v.1 v.2.1 v.2.2 c_end)) (hf : F7_step_b168 z s1 c_bytes c_kind c_from c_behind c_end = some v) : xV (j7_step) X 0 0 (hT c_bytes c_many c_kind c_from c_behind c_end) 168 [] [.int s1, .ref 0] := by
  unfold F7_step_b168 at hf
  refine xV_put (h' := (hT c_bytes c_many s1 c_from c_behind c_end)) 171 rfl dX7_step_168 f7_37 rfl nf7_2 (fun _ => rfl) (fun _ => rfl) (Nat.le_of_ble_eq_true rfl) rfl ?_
  refine xV_goto (tgt := 179) dX7_step_171 (by decide) ?_
  obtain rfl := Option.some.inj hf
  exact xV_vret hX dX7_step_179 (Nat.zero_le _) (Nat.zero_le _)
def F7_step_b60 (z : Nat) (c_bytes : (Nat → Int32)) (c_kind : Int32) (c_from : Int32) (c_behind : Int32) (c_end : Int32) : Option (Int32 × Int32 × Int32) :=
  if c_from < c_end then (xg (xin c_from 300) (if (c_bytes (xn c_from)) = (59 : Int32) then (some ((3 : Int32), c_from, (c_from + (1 : Int32)))) else ((F7_skip z (97 : Int32) (122 : Int32) c_bytes c_from c_from c_end).bind (fun v124 => if v124.1 = 0 then ((F7_skip z (48 : Int32) (57 : Int32) c_bytes c_from v124.2 c_end).bind (fun v143 => if v143.1 = 0 then (some ((4 : Int32), c_from, v143.2)) else (if (4 : Int32) < (v143.2 - c_from) then (F7_step_b168 z (4 : Int32) c_bytes c_kind c_from v143.2 c_end) else (F7_step_b168 z (2 : Int32) c_bytes c_kind c_from v143.2 c_end)))) else (some ((1 : Int32), c_from, v124.2)))))) else (some ((0 : Int32), c_from, c_from))
theorem T7_step_b60 {X : xX} {c_many : Int32} {c_bytes : (Nat → Int32)} {c_kind : Int32} {c_from : Int32} {c_behind : Int32} {c_end : Int32} {z : Nat} {v : Int32 × Int32 × Int32} (hX : xIs (j7_step) X none none (hT c_bytes c_many v.1 v.2.1 v.2.2 c_end)) (hf : F7_step_b60 z c_bytes c_kind c_from c_behind c_end = some v) : xV (j7_step) X 0 0 (hT c_bytes c_many c_kind c_from c_behind c_end) 60 [(0, .ref 0)] [] := by
  unfold F7_step_b60 at hf
  refine xV_aload_n 61 rfl dX7_step_60 rfl 0 rfl ?_
  refine xV_aload_n 62 rfl dX7_step_61 rfl 0 rfl ?_
  refine xV_get (v := .int c_from) 65 rfl dX7_step_62 f7_34 rfl rfl ?_
  refine xV_put (h' := (hT c_bytes c_many c_kind c_from c_from c_end)) 68 rfl dX7_step_65 f7_28 rfl nf7_4 (fun _ => rfl) (fun _ => rfl) (Nat.le_of_ble_eq_true rfl) rfl ?_
  refine xV_aload_n 69 rfl dX7_step_68 rfl 0 rfl ?_
  refine xV_get (v := .int c_from) 72 rfl dX7_step_69 f7_34 rfl rfl ?_
  refine xV_aload_n 73 rfl dX7_step_72 rfl 0 rfl ?_
  refine xV_get (v := .int c_end) 76 rfl dX7_step_73 f7_25 rfl rfl ?_
  refine xV_icmp_lt (tgt := 87) 79 rfl dX7_step_76 (by decide) (fun h76 => ?_) (fun h76 => ?_)
  · have hf := xif_t hf h76
    refine xV_aload_n 88 rfl dX7_step_87 rfl 0 rfl ?_
    refine xV_get (v := .ref 1) 91 rfl dX7_step_88 f7_9 rfl rfl ?_
    refine xV_aload_n 92 rfl dX7_step_91 rfl 0 rfl ?_
    refine xV_get (v := .int c_from) 95 rfl dX7_step_92 f7_34 rfl rfl ?_
    obtain ⟨hg95, hf⟩ := xg_s hf
    refine xV_iaload 96 rfl dX7_step_95 rfl (xin_ok hg95) rfl ?_
    refine xV_bipush 98 rfl dX7_step_96 xy_b59 ?_
    refine xV_icmp_ne (tgt := 119) 101 rfl dX7_step_98 (by decide) (fun h98 => ?_) (fun h98 => ?_)
    · have hf := xif_f hf h98
      refine xV_aload_n 120 rfl dX7_step_119 rfl 0 rfl ?_
      refine xV_bipush 122 rfl dX7_step_120 xy_b97 ?_
      refine xV_bipush 124 rfl dX7_step_122 xy_b122 ?_
      obtain ⟨v124, hv124, hf⟩ := xb_s hf
      refine xV_same (rest := []) 127 rfl dX7_step_124 rfl (C7_skip X.1.2.1 hv124) m7_skip v7_skip k7_40 rfl rfl rfl rfl rfl (Nat.le_of_ble_eq_true rfl) (Nat.le_of_ble_eq_true rfl) (Nat.le_of_ble_eq_true rfl) ⟨Nat.le_refl _, Nat.le_refl _⟩ ?_
      show xV (j7_step) X 0 0 (hT c_bytes c_many c_kind c_from v124.2 c_end) 127 [(0, .ref 0)] [.int v124.1]
      refine xV_if_eq (tgt := 138) 130 rfl dX7_step_127 (by decide) (fun h127 => ?_) (fun h127 => ?_)
      · have hf := xif_t hf h127
        refine xV_aload_n 139 rfl dX7_step_138 rfl 0 rfl ?_
        refine xV_bipush 141 rfl dX7_step_139 xy_b48 ?_
        refine xV_bipush 143 rfl dX7_step_141 xy_b57 ?_
        obtain ⟨v143, hv143, hf⟩ := xb_s hf
        refine xV_same (rest := []) 146 rfl dX7_step_143 rfl (C7_skip X.1.2.1 hv143) m7_skip v7_skip k7_40 rfl rfl rfl rfl rfl (Nat.le_of_ble_eq_true rfl) (Nat.le_of_ble_eq_true rfl) (Nat.le_of_ble_eq_true rfl) ⟨Nat.le_refl _, Nat.le_refl _⟩ ?_
        show xV (j7_step) X 0 0 (hT c_bytes c_many c_kind c_from v143.2 c_end) 146 [(0, .ref 0)] [.int v143.1]
        refine xV_if_eq (tgt := 174) 149 rfl dX7_step_146 (by decide) (fun h146 => ?_) (fun h146 => ?_)
        · have hf := xif_t hf h146
          refine xV_aload_n 175 rfl dX7_step_174 rfl 0 rfl ?_
          refine xV_iconst 176 rfl dX7_step_175 xy_i4 ?_
          refine xV_put (h' := (hT c_bytes c_many (4 : Int32) c_from v143.2 c_end)) 179 rfl dX7_step_176 f7_37 rfl nf7_2 (fun _ => rfl) (fun _ => rfl) (Nat.le_of_ble_eq_true rfl) rfl ?_
          obtain rfl := Option.some.inj hf
          exact xV_vret hX dX7_step_179 (Nat.zero_le _) (Nat.zero_le _)
        · have hf := xif_f hf h146
          refine xV_aload_n 150 rfl dX7_step_149 rfl 0 rfl ?_
          refine xV_aload_n 151 rfl dX7_step_150 rfl 0 rfl ?_
          refine xV_get (v := .int v143.2) 154 rfl dX7_step_151 f7_28 rfl rfl ?_
          refine xV_aload_n 155 rfl dX7_step_154 rfl 0 rfl ?_
          refine xV_get (v := .int c_from) 158 rfl dX7_step_155 f7_34 rfl rfl ?_
          refine xV_isub 159 rfl dX7_step_158 ?_
          refine xV_iconst 160 rfl dX7_step_159 xy_i4 ?_
          refine xV_icmp_gt (tgt := 167) 163 rfl dX7_step_160 (by decide) (fun h160 => ?_) (fun h160 => ?_)
          · have hf := xif_t hf h160
            refine xV_iconst 168 rfl dX7_step_167 xy_i4 ?_
            refine xV_sub [] rfl ?_
            exact T7_step_b168 hX hf
          · have hf := xif_f hf h160
            refine xV_iconst 164 rfl dX7_step_163 xy_i2 ?_
            refine xV_goto (tgt := 168) dX7_step_164 (by decide) ?_
            refine xV_sub [] rfl ?_
            exact T7_step_b168 hX hf
      · have hf := xif_f hf h127
        refine xV_aload_n 131 rfl dX7_step_130 rfl 0 rfl ?_
        refine xV_iconst 132 rfl dX7_step_131 xy_i1 ?_
        refine xV_put (h' := (hT c_bytes c_many (1 : Int32) c_from v124.2 c_end)) 135 rfl dX7_step_132 f7_37 rfl nf7_2 (fun _ => rfl) (fun _ => rfl) (Nat.le_of_ble_eq_true rfl) rfl ?_
        refine xV_goto (tgt := 179) dX7_step_135 (by decide) ?_
        obtain rfl := Option.some.inj hf
        exact xV_vret hX dX7_step_179 (Nat.zero_le _) (Nat.zero_le _)
    · have hf := xif_t hf h98
      refine xV_aload_n 102 rfl dX7_step_101 rfl 0 rfl ?_
      refine xV_iconst 103 rfl dX7_step_102 xy_i3 ?_
      refine xV_put (h' := (hT c_bytes c_many (3 : Int32) c_from c_from c_end)) 106 rfl dX7_step_103 f7_37 rfl nf7_2 (fun _ => rfl) (fun _ => rfl) (Nat.le_of_ble_eq_true rfl) rfl ?_
      refine xV_aload_n 107 rfl dX7_step_106 rfl 0 rfl ?_
      refine xV_dup 108 rfl dX7_step_107 rfl ?_
      refine xV_get (v := .int c_from) 111 rfl dX7_step_108 f7_28 rfl rfl ?_
      refine xV_iconst 112 rfl dX7_step_111 xy_i1 ?_
      refine xV_iadd 113 rfl dX7_step_112 ?_
      refine xV_put (h' := (hT c_bytes c_many (3 : Int32) c_from (c_from + (1 : Int32)) c_end)) 116 rfl dX7_step_113 f7_28 rfl nf7_4 (fun _ => rfl) (fun _ => rfl) (Nat.le_of_ble_eq_true rfl) rfl ?_
      refine xV_goto (tgt := 179) dX7_step_116 (by decide) ?_
      obtain rfl := Option.some.inj hf
      exact xV_vret hX dX7_step_179 (Nat.zero_le _) (Nat.zero_le _)
  · have hf := xif_f hf h76
    refine xV_aload_n 80 rfl dX7_step_79 rfl 0 rfl ?_
    refine xV_iconst 81 rfl dX7_step_80 xy_i0 ?_
    refine xV_put (h' := (hT c_bytes c_many (0 : Int32) c_from c_from c_end)) 84 rfl dX7_step_81 f7_37 rfl nf7_2 (fun _ => rfl) (fun _ => rfl) (Nat.le_of_ble_eq_true rfl) rfl ?_
    refine xV_goto (tgt := 179) dX7_step_84 (by decide) ?_
    obtain rfl := Option.some.inj hf
    exact xV_vret hX dX7_step_179 (Nat.zero_le _) (Nat.zero_le _)
def F7_step_b47 (z : Nat) (c_bytes : (Nat → Int32)) (c_kind : Int32) (c_from : Int32) (c_behind : Int32) (c_end : Int32) (k8 : (Nat → Int32) → Int32 → Int32 → Int32 → Int32 → Option (Int32 × Int32 × Int32)) : Option (Int32 × Int32 × Int32) :=
  k8 c_bytes c_kind (c_from + (1 : Int32)) c_behind c_end
theorem T7_step_b47 {X : xX} {c_many : Int32} {c_bytes : (Nat → Int32)} {c_kind : Int32} {c_from : Int32} {c_behind : Int32} {c_end : Int32} {z : Nat} {v : Int32 × Int32 × Int32} {k8 : (Nat → Int32) → Int32 → Int32 → Int32 → Int32 → Option (Int32 × Int32 × Int32)} (hX : xIs (j7_step) X none none (hT c_bytes c_many v.1 v.2.1 v.2.2 c_end)) (hk8 : ∀ {c_kind : Int32} {c_from : Int32} {c_behind : Int32}, k8 c_bytes c_kind c_from c_behind c_end = some v → xV (j7_step) X 0 0 (hT c_bytes c_many c_kind c_from c_behind c_end) 8 [(0, .ref 0)] []) (hf : F7_step_b47 z c_bytes c_kind c_from c_behind c_end k8 = some v) : xV (j7_step) X 0 0 (hT c_bytes c_many c_kind c_from c_behind c_end) 47 [(0, .ref 0)] [] := by
  unfold F7_step_b47 at hf
  refine xV_aload_n 48 rfl dX7_step_47 rfl 0 rfl ?_
  refine xV_dup 49 rfl dX7_step_48 rfl ?_
  refine xV_get (v := .int c_from) 52 rfl dX7_step_49 f7_34 rfl rfl ?_
  refine xV_iconst 53 rfl dX7_step_52 xy_i1 ?_
  refine xV_iadd 54 rfl dX7_step_53 ?_
  refine xV_put (h' := (hT c_bytes c_many c_kind (c_from + (1 : Int32)) c_behind c_end)) 57 rfl dX7_step_54 f7_34 rfl nf7_3 (fun _ => rfl) (fun _ => rfl) (Nat.le_of_ble_eq_true rfl) rfl ?_
  refine xV_goto (tgt := 8) dX7_step_57 (by decide) ?_
  exact hk8 hf
def F7_step_b8 (z : Nat) (w : Nat) (c_bytes : (Nat → Int32)) (c_kind : Int32) (c_from : Int32) (c_behind : Int32) (c_end : Int32) : Option (Int32 × Int32 × Int32) := match w with
  | 0 => none
  | w + 1 => if c_end ≤ c_from then (F7_step_b60 z c_bytes c_kind c_from c_behind c_end) else (xg (xin c_from 300) (if (c_bytes (xn c_from)) = (32 : Int32) then (F7_step_b47 z c_bytes c_kind c_from c_behind c_end (fun q0 q1 q2 q3 q4 => F7_step_b8 z w q0 q1 q2 q3 q4)) else (xg (xin c_from 300) (if (c_bytes (xn c_from)) = (10 : Int32) then (F7_step_b47 z c_bytes c_kind c_from c_behind c_end (fun q0 q1 q2 q3 q4 => F7_step_b8 z w q0 q1 q2 q3 q4)) else (F7_step_b60 z c_bytes c_kind c_from c_behind c_end)))))
theorem T7_step_b8 {X : xX} {c_bytes : (Nat → Int32)} {c_many : Int32} {c_end : Int32} {z : Nat} {v : Int32 × Int32 × Int32} (hX : xIs (j7_step) X none none (hT c_bytes c_many v.1 v.2.1 v.2.2 c_end)) : ∀ (w : Nat) {c_kind : Int32} {c_from : Int32} {c_behind : Int32}, F7_step_b8 z w c_bytes c_kind c_from c_behind c_end = some v → xV (j7_step) X 0 0 (hT c_bytes c_many c_kind c_from c_behind c_end) 8 [(0, .ref 0)] [] := by
  intro w
  induction w with
  | zero => intro c_kind c_from c_behind hf; cases hf
  | succ w ih =>
    intro c_kind c_from c_behind hf
    unfold F7_step_b8 at hf
    refine xV_aload_n 9 rfl dX7_step_8 rfl 0 rfl ?_
    refine xV_get (v := .int c_from) 12 rfl dX7_step_9 f7_34 rfl rfl ?_
    refine xV_aload_n 13 rfl dX7_step_12 rfl 0 rfl ?_
    refine xV_get (v := .int c_end) 16 rfl dX7_step_13 f7_25 rfl rfl ?_
    refine xV_icmp_ge (tgt := 60) 19 rfl dX7_step_16 (by decide) (fun h16 => ?_) (fun h16 => ?_)
    · have hf := xif_t hf h16
      exact T7_step_b60 hX hf
    · have hf := xif_f hf h16
      refine xV_aload_n 20 rfl dX7_step_19 rfl 0 rfl ?_
      refine xV_get (v := .ref 1) 23 rfl dX7_step_20 f7_9 rfl rfl ?_
      refine xV_aload_n 24 rfl dX7_step_23 rfl 0 rfl ?_
      refine xV_get (v := .int c_from) 27 rfl dX7_step_24 f7_34 rfl rfl ?_
      obtain ⟨hg27, hf⟩ := xg_s hf
      refine xV_iaload 28 rfl dX7_step_27 rfl (xin_ok hg27) rfl ?_
      refine xV_bipush 30 rfl dX7_step_28 xy_b32 ?_
      refine xV_icmp_eq (tgt := 47) 33 rfl dX7_step_30 (by decide) (fun h30 => ?_) (fun h30 => ?_)
      · have hf := xif_t hf h30
        exact T7_step_b47 hX (fun {_ _ _} hq => ih hq) hf
      · have hf := xif_f hf h30
        refine xV_aload_n 34 rfl dX7_step_33 rfl 0 rfl ?_
        refine xV_get (v := .ref 1) 37 rfl dX7_step_34 f7_9 rfl rfl ?_
        refine xV_aload_n 38 rfl dX7_step_37 rfl 0 rfl ?_
        refine xV_get (v := .int c_from) 41 rfl dX7_step_38 f7_34 rfl rfl ?_
        obtain ⟨hg41, hf⟩ := xg_s hf
        refine xV_iaload 42 rfl dX7_step_41 rfl (xin_ok hg41) rfl ?_
        refine xV_bipush 44 rfl dX7_step_42 xy_b10 ?_
        refine xV_icmp_ne (tgt := 60) 47 rfl dX7_step_44 (by decide) (fun h44 => ?_) (fun h44 => ?_)
        · have hf := xif_f hf h44
          exact T7_step_b60 hX hf
        · have hf := xif_t hf h44
          exact T7_step_b47 hX (fun {_ _ _} hq => ih hq) hf
def F7_step (z : Nat) (c_bytes : (Nat → Int32)) (c_kind : Int32) (c_from : Int32) (c_behind : Int32) (c_end : Int32) : Option (Int32 × Int32 × Int32) :=
  F7_step_b8 z z c_bytes c_kind c_behind c_behind c_end
theorem T7_step {X : xX} {z : Nat} {c_bytes : (Nat → Int32)} {c_kind : Int32} {c_from : Int32} {c_behind : Int32} {c_end : Int32} {c_many : Int32} {v : Int32 × Int32 × Int32} (hX : xIs (j7_step) X none none (hT c_bytes c_many v.1 v.2.1 v.2.2 c_end)) (hf : F7_step z c_bytes c_kind c_from c_behind c_end = some v) : xV (j7_step) X 0 0 (hT c_bytes c_many c_kind c_from c_behind c_end) 0 [(0, .ref 0)] [] := by
  unfold F7_step at hf
  refine xV_aload_n 1 rfl dX7_step_0 rfl 0 rfl ?_
  refine xV_aload_n 2 rfl dX7_step_1 rfl 0 rfl ?_
  refine xV_get (v := .int c_behind) 5 rfl dX7_step_2 f7_28 rfl rfl ?_
  refine xV_put (h' := (hT c_bytes c_many c_kind c_behind c_behind c_end)) 8 rfl dX7_step_5 f7_34 rfl nf7_3 (fun _ => rfl) (fun _ => rfl) (Nat.le_of_ble_eq_true rfl) rfl ?_
  exact T7_step_b8 hX _ hf
theorem C7_step (l : Launch) {z : Nat} {c_bytes : (Nat → Int32)} {c_kind : Int32} {c_from : Int32} {c_behind : Int32} {c_end : Int32} {c_many : Int32} {v : Int32 × Int32 × Int32} (hf : F7_step z c_bytes c_kind c_from c_behind c_end = some v) : xCt l yX7_step none j7_step [.ref 0] (hT c_bytes c_many c_kind c_from c_behind c_end) none (hT c_bytes c_many v.1 v.2.1 v.2.2 c_end) := xCt_of (by decide) rfl (Nat.le_of_ble_eq_true rfl) (fun _ hX => T7_step hX hf)
theorem m7_step : xMd yX7_step RX7 none j7_step 0 := ⟨List.mem_of_getElem? (i := 238) (by decide +kernel), List.mem_of_getElem? (i := 81) (by decide +kernel), rfl, by decide +kernel⟩
theorem v7_step : xMv yX7_step RX7 := ⟨List.mem_of_getElem? (i := 236) (by decide +kernel), List.mem_of_getElem? (i := 237) (by decide +kernel)⟩
theorem k7_19 : Cond.methodLink RX7 19 Lib.Math.min.name ∈ wsL_law0 := List.mem_of_getElem? (i := 229) (by decide +kernel)
theorem nf7_5 : ∀ q : vw_C, vwCl[7]? = some q → (q.2.1 5).2.2.2 = false := fun q e => by cases e; rfl
theorem k7_31 : Cond.methodLink RX7 31 yX7_step ∈ wsL_law0 := List.mem_of_getElem? (i := 235) (by decide +kernel)
theorem dX7_begin_0 : decode cX7_begin 0 = .ok (.aload_n 0, 1) := by decide +kernel
theorem dX7_begin_1 : decode cX7_begin 1 = .ok (.iload_n 1, 1) := by decide +kernel
theorem dX7_begin_2 : decode cX7_begin 2 = .ok (.aload_n 0, 1) := by decide +kernel
theorem dX7_begin_3 : decode cX7_begin 3 = .ok (.getfield 15, 3) := by decide +kernel
theorem dX7_begin_6 : decode cX7_begin 6 = .ok (.invokestatic 19, 3) := by decide +kernel
theorem dX7_begin_9 : decode cX7_begin 9 = .ok (.putfield 25, 3) := by decide +kernel
theorem dX7_begin_12 : decode cX7_begin 12 = .ok (.aload_n 0, 1) := by decide +kernel
theorem dX7_begin_13 : decode cX7_begin 13 = .ok (.iconst 0, 1) := by decide +kernel
theorem dX7_begin_14 : decode cX7_begin 14 = .ok (.putfield 28, 3) := by decide +kernel
theorem dX7_begin_17 : decode cX7_begin 17 = .ok (.aload_n 0, 1) := by decide +kernel
theorem dX7_begin_18 : decode cX7_begin 18 = .ok (.invokevirtual 31, 3) := by decide +kernel
theorem dX7_begin_21 : decode cX7_begin 21 = .ok (.return_, 1) := by decide +kernel
abbrev j7_begin : xJ := (cX7_begin, 2, RX7, 3, 0, 0)
def F7_begin (z : Nat) (x1 : Int32) (c_bytes : (Nat → Int32)) (c_many : Int32) (c_kind : Int32) (c_from : Int32) (c_behind : Int32) (c_end : Int32) : Option (Int32 × Int32 × Int32 × Int32) :=
  (F7_step z c_bytes c_kind c_from (0 : Int32) (if c_many < x1 then c_many else x1)).bind (fun v18 => some (v18.1, v18.2.1, v18.2.2, (if c_many < x1 then c_many else x1)))
theorem T7_begin {X : xX} {z : Nat} {x1 : Int32} {c_bytes : (Nat → Int32)} {c_many : Int32} {c_kind : Int32} {c_from : Int32} {c_behind : Int32} {c_end : Int32}  {v : Int32 × Int32 × Int32 × Int32} (hX : xIs (j7_begin) X none none (hT c_bytes c_many v.1 v.2.1 v.2.2.1 v.2.2.2)) (hf : F7_begin z x1 c_bytes c_many c_kind c_from c_behind c_end = some v) : xV (j7_begin) X 0 0 (hT c_bytes c_many c_kind c_from c_behind c_end) 0 [(0, .ref 0), (1, .int x1)] [] := by
  unfold F7_begin at hf
  refine xV_aload_n 1 rfl dX7_begin_0 rfl 0 rfl ?_
  refine xV_iload_n 2 rfl dX7_begin_1 rfl 1 rfl ?_
  refine xV_aload_n 3 rfl dX7_begin_2 rfl 0 rfl ?_
  refine xV_get (v := .int c_many) 6 rfl dX7_begin_3 f7_15 rfl rfl ?_
  refine xV_mmin 9 rfl dX7_begin_6 k7_19 (Nat.le_of_ble_eq_true rfl) (Nat.le_of_ble_eq_true rfl) (Nat.zero_le _) (Nat.zero_le _) ?_
  refine xV_put (h' := (hT c_bytes c_many c_kind c_from c_behind (if c_many < x1 then c_many else x1))) 12 rfl dX7_begin_9 f7_25 rfl nf7_5 (fun _ => rfl) (fun _ => rfl) (Nat.le_of_ble_eq_true rfl) rfl ?_
  refine xV_aload_n 13 rfl dX7_begin_12 rfl 0 rfl ?_
  refine xV_iconst 14 rfl dX7_begin_13 xy_i0 ?_
  refine xV_put (h' := (hT c_bytes c_many c_kind c_from (0 : Int32) (if c_many < x1 then c_many else x1))) 17 rfl dX7_begin_14 f7_28 rfl nf7_4 (fun _ => rfl) (fun _ => rfl) (Nat.le_of_ble_eq_true rfl) rfl ?_
  refine xV_aload_n 18 rfl dX7_begin_17 rfl 0 rfl ?_
  obtain ⟨v18, hv18, hf⟩ := xb_s hf
  refine xV_same (rest := []) 21 rfl dX7_begin_18 rfl (C7_step X.1.2.1 hv18) m7_step v7_step k7_31 rfl rfl rfl rfl rfl (Nat.le_of_ble_eq_true rfl) (Nat.le_of_ble_eq_true rfl) (Nat.le_of_ble_eq_true rfl) ⟨Nat.le_refl _, Nat.le_refl _⟩ ?_
  show xV (j7_begin) X 0 0 (hT c_bytes c_many v18.1 v18.2.1 v18.2.2 (if c_many < x1 then c_many else x1)) 21 [(0, .ref 0), (1, .int x1)] []
  obtain rfl := Option.some.inj hf
  exact xV_vret hX dX7_begin_21 (Nat.zero_le _) (Nat.zero_le _)
theorem C7_begin (l : Launch) {z : Nat} {x1 : Int32} {c_bytes : (Nat → Int32)} {c_many : Int32} {c_kind : Int32} {c_from : Int32} {c_behind : Int32} {c_end : Int32}  {v : Int32 × Int32 × Int32 × Int32} (hf : F7_begin z x1 c_bytes c_many c_kind c_from c_behind c_end = some v) : xCt l yX7_begin none j7_begin [.ref 0, .int x1] (hT c_bytes c_many c_kind c_from c_behind c_end) none (hT c_bytes c_many v.1 v.2.1 v.2.2.1 v.2.2.2) := xCt_of (by decide) rfl (Nat.le_of_ble_eq_true rfl) (fun _ hX => T7_begin hX hf)
theorem m7_begin : xMd yX7_begin RX7 none j7_begin 1 := ⟨List.mem_of_getElem? (i := 228) (by decide +kernel), List.mem_of_getElem? (i := 81) (by decide +kernel), rfl, by decide +kernel⟩
theorem v7_begin : xMv yX7_begin RX7 := ⟨List.mem_of_getElem? (i := 226) (by decide +kernel), List.mem_of_getElem? (i := 227) (by decide +kernel)⟩
theorem dX7_amount_0 : decode cX7_amount 0 = .ok (.iconst 0, 1) := by decide +kernel
theorem dX7_amount_1 : decode cX7_amount 1 = .ok (.istore_n 1, 1) := by decide +kernel
theorem dX7_amount_2 : decode cX7_amount 2 = .ok (.aload_n 0, 1) := by decide +kernel
theorem dX7_amount_3 : decode cX7_amount 3 = .ok (.getfield 34, 3) := by decide +kernel
theorem dX7_amount_6 : decode cX7_amount 6 = .ok (.istore_n 2, 1) := by decide +kernel
theorem dX7_amount_7 : decode cX7_amount 7 = .ok (.iload_n 2, 1) := by decide +kernel
theorem dX7_amount_8 : decode cX7_amount 8 = .ok (.aload_n 0, 1) := by decide +kernel
theorem dX7_amount_9 : decode cX7_amount 9 = .ok (.getfield 28, 3) := by decide +kernel
theorem dX7_amount_12 : decode cX7_amount 12 = .ok (.if_icmp .ge 24, 3) := by decide +kernel
theorem dX7_amount_15 : decode cX7_amount 15 = .ok (.iload_n 1, 1) := by decide +kernel
theorem dX7_amount_16 : decode cX7_amount 16 = .ok (.bipush 10, 2) := by decide +kernel
theorem dX7_amount_18 : decode cX7_amount 18 = .ok (.imul, 1) := by decide +kernel
theorem dX7_amount_19 : decode cX7_amount 19 = .ok (.aload_n 0, 1) := by decide +kernel
theorem dX7_amount_20 : decode cX7_amount 20 = .ok (.getfield 9, 3) := by decide +kernel
theorem dX7_amount_23 : decode cX7_amount 23 = .ok (.iload_n 2, 1) := by decide +kernel
theorem dX7_amount_24 : decode cX7_amount 24 = .ok (.iaload, 1) := by decide +kernel
theorem dX7_amount_25 : decode cX7_amount 25 = .ok (.iadd, 1) := by decide +kernel
theorem dX7_amount_26 : decode cX7_amount 26 = .ok (.bipush 48, 2) := by decide +kernel
theorem dX7_amount_28 : decode cX7_amount 28 = .ok (.isub, 1) := by decide +kernel
theorem dX7_amount_29 : decode cX7_amount 29 = .ok (.istore_n 1, 1) := by decide +kernel
theorem dX7_amount_30 : decode cX7_amount 30 = .ok (.iinc 2 1, 3) := by decide +kernel
theorem dX7_amount_33 : decode cX7_amount 33 = .ok (.goto (-26), 3) := by decide +kernel
theorem dX7_amount_36 : decode cX7_amount 36 = .ok (.iload_n 1, 1) := by decide +kernel
theorem dX7_amount_37 : decode cX7_amount 37 = .ok (.ireturn, 1) := by decide +kernel
abbrev j7_amount : xJ := (cX7_amount, 3, RX7, 1, 0, 0)
def F7_amount_b7 (z : Nat) (w : Nat) (x1 : Int32) (x2 : Int32) (c_bytes : (Nat → Int32)) (c_from : Int32) (c_behind : Int32) : Option (Int32) := match w with
  | 0 => none
  | w + 1 => if c_behind ≤ x2 then (some (x1)) else (xg (xin x2 300) (F7_amount_b7 z w (((x1 * (10 : Int32)) + (c_bytes (xn x2))) - (48 : Int32)) (x2 + (1 : Int32)) c_bytes c_from c_behind))
theorem T7_amount_b7 {X : xX} {c_bytes : (Nat → Int32)} {c_many : Int32} {c_kind : Int32} {c_from : Int32} {c_behind : Int32} {c_end : Int32} {z : Nat} {v : Int32} (hX : xIs (j7_amount) X ((some .int)) (some (.int v)) (hT c_bytes c_many c_kind c_from c_behind c_end)) : ∀ (w : Nat) {x1 : Int32} {x2 : Int32}, F7_amount_b7 z w x1 x2 c_bytes c_from c_behind = some v → xV (j7_amount) X 0 0 (hT c_bytes c_many c_kind c_from c_behind c_end) 7 [(0, .ref 0), (1, .int x1), (2, .int x2)] [] := by
  intro w
  induction w with
  | zero => intro x1 x2 hf; cases hf
  | succ w ih =>
    intro x1 x2 hf
    unfold F7_amount_b7 at hf
    refine xV_iload_n 8 rfl dX7_amount_7 rfl 2 rfl ?_
    refine xV_aload_n 9 rfl dX7_amount_8 rfl 0 rfl ?_
    refine xV_get (v := .int c_behind) 12 rfl dX7_amount_9 f7_28 rfl rfl ?_
    refine xV_icmp_ge (tgt := 36) 15 rfl dX7_amount_12 (by decide) (fun h12 => ?_) (fun h12 => ?_)
    · have hf := xif_t hf h12
      refine xV_iload_n 37 rfl dX7_amount_36 rfl 1 rfl ?_
      obtain rfl := Option.some.inj hf
      exact xV_iret hX dX7_amount_37 rfl (Nat.zero_le _) (Nat.zero_le _)
    · have hf := xif_f hf h12
      refine xV_iload_n 16 rfl dX7_amount_15 rfl 1 rfl ?_
      refine xV_bipush 18 rfl dX7_amount_16 xy_b10 ?_
      refine xV_imul 19 rfl dX7_amount_18 ?_
      refine xV_aload_n 20 rfl dX7_amount_19 rfl 0 rfl ?_
      refine xV_get (v := .ref 1) 23 rfl dX7_amount_20 f7_9 rfl rfl ?_
      refine xV_iload_n 24 rfl dX7_amount_23 rfl 2 rfl ?_
      obtain ⟨hg24, hf⟩ := xg_s hf
      refine xV_iaload 25 rfl dX7_amount_24 rfl (xin_ok hg24) rfl ?_
      refine xV_iadd 26 rfl dX7_amount_25 ?_
      refine xV_bipush 28 rfl dX7_amount_26 xy_b48 ?_
      refine xV_isub 29 rfl dX7_amount_28 ?_
      refine xV_istore_n (L' := [(1, .int (((x1 * (10 : Int32)) + (c_bytes (xn x2))) - (48 : Int32))), (0, .ref 0), (2, .int x2)]) 30 rfl dX7_amount_29 rfl (xlt rfl) rfl ?_
      refine xV_iinc (L' := [(2, .int (x2 + (1 : Int32))), (1, .int (((x1 * (10 : Int32)) + (c_bytes (xn x2))) - (48 : Int32))), (0, .ref 0)]) 33 rfl dX7_amount_30 2 rfl (xk_inc xy_i1) (xlt rfl) rfl ?_
      refine xV_goto (tgt := 7) dX7_amount_33 (by decide) ?_
      refine xV_sub [2, 1, 0] rfl ?_
      exact ih hf
def F7_amount (z : Nat) (c_bytes : (Nat → Int32)) (c_from : Int32) (c_behind : Int32) : Option (Int32) :=
  F7_amount_b7 z z (0 : Int32) c_from c_bytes c_from c_behind
theorem T7_amount {X : xX} {z : Nat} {c_bytes : (Nat → Int32)} {c_from : Int32} {c_behind : Int32} {c_many : Int32} {c_kind : Int32} {c_end : Int32} {v : Int32} (hX : xIs (j7_amount) X ((some .int)) (some (.int v)) (hT c_bytes c_many c_kind c_from c_behind c_end)) (hf : F7_amount z c_bytes c_from c_behind = some v) : xV (j7_amount) X 0 0 (hT c_bytes c_many c_kind c_from c_behind c_end) 0 [(0, .ref 0)] [] := by
  unfold F7_amount at hf
  refine xV_iconst 1 rfl dX7_amount_0 xy_i0 ?_
  refine xV_istore_n (L' := [(1, .int (0 : Int32)), (0, .ref 0)]) 2 rfl dX7_amount_1 rfl (xlt rfl) rfl ?_
  refine xV_aload_n 3 rfl dX7_amount_2 rfl 1 rfl ?_
  refine xV_get (v := .int c_from) 6 rfl dX7_amount_3 f7_34 rfl rfl ?_
  refine xV_istore_n (L' := [(2, .int c_from), (1, .int (0 : Int32)), (0, .ref 0)]) 7 rfl dX7_amount_6 rfl (xlt rfl) rfl ?_
  refine xV_sub [2, 1, 0] rfl ?_
  exact T7_amount_b7 hX _ hf
theorem C7_amount (l : Launch) {z : Nat} {c_bytes : (Nat → Int32)} {c_from : Int32} {c_behind : Int32} {c_many : Int32} {c_kind : Int32} {c_end : Int32} {v : Int32} (hf : F7_amount z c_bytes c_from c_behind = some v) : xCt l yX7_amount ((some .int)) j7_amount [.ref 0] (hT c_bytes c_many c_kind c_from c_behind c_end) (some (.int v)) (hT c_bytes c_many c_kind c_from c_behind c_end) := xCt_of (by decide) rfl (Nat.le_of_ble_eq_true rfl) (fun _ hX => T7_amount hX hf)
theorem m7_amount : xMd yX7_amount RX7 ((some .int)) j7_amount 0 := ⟨List.mem_of_getElem? (i := 321) (by decide +kernel), List.mem_of_getElem? (i := 81) (by decide +kernel), rfl, by decide +kernel⟩
theorem v7_amount : xMv yX7_amount RX7 := ⟨List.mem_of_getElem? (i := 319) (by decide +kernel), List.mem_of_getElem? (i := 320) (by decide +kernel)⟩
theorem xy_b55 : (Int8.ofInt (55)).toInt32 = (55 : Int32) := by decide
theorem dX7_eights_0 : decode cX7_eights 0 = .ok (.aload_n 0, 1) := by decide +kernel
theorem dX7_eights_1 : decode cX7_eights 1 = .ok (.getfield 28, 3) := by decide +kernel
theorem dX7_eights_4 : decode cX7_eights 4 = .ok (.aload_n 0, 1) := by decide +kernel
theorem dX7_eights_5 : decode cX7_eights 5 = .ok (.getfield 34, 3) := by decide +kernel
theorem dX7_eights_8 : decode cX7_eights 8 = .ok (.isub, 1) := by decide +kernel
theorem dX7_eights_9 : decode cX7_eights 9 = .ok (.iload_n 1, 1) := by decide +kernel
theorem dX7_eights_10 : decode cX7_eights 10 = .ok (.if_icmp .eq 5, 3) := by decide +kernel
theorem dX7_eights_13 : decode cX7_eights 13 = .ok (.iconst (-1), 1) := by decide +kernel
theorem dX7_eights_14 : decode cX7_eights 14 = .ok (.ireturn, 1) := by decide +kernel
theorem dX7_eights_15 : decode cX7_eights 15 = .ok (.iconst 0, 1) := by decide +kernel
theorem dX7_eights_16 : decode cX7_eights 16 = .ok (.istore_n 2, 1) := by decide +kernel
theorem dX7_eights_17 : decode cX7_eights 17 = .ok (.aload_n 0, 1) := by decide +kernel
theorem dX7_eights_18 : decode cX7_eights 18 = .ok (.getfield 34, 3) := by decide +kernel
theorem dX7_eights_21 : decode cX7_eights 21 = .ok (.istore_n 3, 1) := by decide +kernel
theorem dX7_eights_22 : decode cX7_eights 22 = .ok (.iload_n 3, 1) := by decide +kernel
theorem dX7_eights_23 : decode cX7_eights 23 = .ok (.aload_n 0, 1) := by decide +kernel
theorem dX7_eights_24 : decode cX7_eights 24 = .ok (.getfield 28, 3) := by decide +kernel
theorem dX7_eights_27 : decode cX7_eights 27 = .ok (.if_icmp .ge 37, 3) := by decide +kernel
theorem dX7_eights_30 : decode cX7_eights 30 = .ok (.aload_n 0, 1) := by decide +kernel
theorem dX7_eights_31 : decode cX7_eights 31 = .ok (.getfield 9, 3) := by decide +kernel
theorem dX7_eights_34 : decode cX7_eights 34 = .ok (.iload_n 3, 1) := by decide +kernel
theorem dX7_eights_35 : decode cX7_eights 35 = .ok (.iaload, 1) := by decide +kernel
theorem dX7_eights_36 : decode cX7_eights 36 = .ok (.bipush 55, 2) := by decide +kernel
theorem dX7_eights_38 : decode cX7_eights 38 = .ok (.if_icmp .le 5, 3) := by decide +kernel
theorem dX7_eights_41 : decode cX7_eights 41 = .ok (.iconst (-1), 1) := by decide +kernel
theorem dX7_eights_42 : decode cX7_eights 42 = .ok (.ireturn, 1) := by decide +kernel
theorem dX7_eights_43 : decode cX7_eights 43 = .ok (.iload_n 2, 1) := by decide +kernel
theorem dX7_eights_44 : decode cX7_eights 44 = .ok (.bipush 8, 2) := by decide +kernel
theorem dX7_eights_46 : decode cX7_eights 46 = .ok (.imul, 1) := by decide +kernel
theorem dX7_eights_47 : decode cX7_eights 47 = .ok (.aload_n 0, 1) := by decide +kernel
theorem dX7_eights_48 : decode cX7_eights 48 = .ok (.getfield 9, 3) := by decide +kernel
theorem dX7_eights_51 : decode cX7_eights 51 = .ok (.iload_n 3, 1) := by decide +kernel
theorem dX7_eights_52 : decode cX7_eights 52 = .ok (.iaload, 1) := by decide +kernel
theorem dX7_eights_53 : decode cX7_eights 53 = .ok (.iadd, 1) := by decide +kernel
theorem dX7_eights_54 : decode cX7_eights 54 = .ok (.bipush 48, 2) := by decide +kernel
theorem dX7_eights_56 : decode cX7_eights 56 = .ok (.isub, 1) := by decide +kernel
theorem dX7_eights_57 : decode cX7_eights 57 = .ok (.istore_n 2, 1) := by decide +kernel
theorem dX7_eights_58 : decode cX7_eights 58 = .ok (.iinc 3 1, 3) := by decide +kernel
theorem dX7_eights_61 : decode cX7_eights 61 = .ok (.goto (-39), 3) := by decide +kernel
theorem dX7_eights_64 : decode cX7_eights 64 = .ok (.iload_n 2, 1) := by decide +kernel
theorem dX7_eights_65 : decode cX7_eights 65 = .ok (.ireturn, 1) := by decide +kernel
abbrev j7_eights : xJ := (cX7_eights, 4, RX7, 1, 0, 0)
def F7_eights_b22 (z : Nat) (w : Nat) (x2 : Int32) (x3 : Int32) (c_bytes : (Nat → Int32)) (c_from : Int32) (c_behind : Int32) : Option (Int32) := match w with
  | 0 => none
  | w + 1 => if c_behind ≤ x3 then (some (x2)) else (xg (xin x3 300) (if (c_bytes (xn x3)) ≤ (55 : Int32) then (xg (xin x3 300) (F7_eights_b22 z w (((x2 * (8 : Int32)) + (c_bytes (xn x3))) - (48 : Int32)) (x3 + (1 : Int32)) c_bytes c_from c_behind)) else (some ((-1 : Int32)))))
theorem T7_eights_b22 {X : xX} {c_bytes : (Nat → Int32)} {c_many : Int32} {c_kind : Int32} {c_from : Int32} {c_behind : Int32} {c_end : Int32} {z : Nat} {v : Int32} (hX : xIs (j7_eights) X ((some .int)) (some (.int v)) (hT c_bytes c_many c_kind c_from c_behind c_end)) : ∀ (w : Nat) {x2 : Int32} {x3 : Int32}, F7_eights_b22 z w x2 x3 c_bytes c_from c_behind = some v → xV (j7_eights) X 0 0 (hT c_bytes c_many c_kind c_from c_behind c_end) 22 [(0, .ref 0), (2, .int x2), (3, .int x3)] [] := by
  intro w
  induction w with
  | zero => intro x2 x3 hf; cases hf
  | succ w ih =>
    intro x2 x3 hf
    unfold F7_eights_b22 at hf
    refine xV_iload_n 23 rfl dX7_eights_22 rfl 2 rfl ?_
    refine xV_aload_n 24 rfl dX7_eights_23 rfl 0 rfl ?_
    refine xV_get (v := .int c_behind) 27 rfl dX7_eights_24 f7_28 rfl rfl ?_
    refine xV_icmp_ge (tgt := 64) 30 rfl dX7_eights_27 (by decide) (fun h27 => ?_) (fun h27 => ?_)
    · have hf := xif_t hf h27
      refine xV_iload_n 65 rfl dX7_eights_64 rfl 1 rfl ?_
      obtain rfl := Option.some.inj hf
      exact xV_iret hX dX7_eights_65 rfl (Nat.zero_le _) (Nat.zero_le _)
    · have hf := xif_f hf h27
      refine xV_aload_n 31 rfl dX7_eights_30 rfl 0 rfl ?_
      refine xV_get (v := .ref 1) 34 rfl dX7_eights_31 f7_9 rfl rfl ?_
      refine xV_iload_n 35 rfl dX7_eights_34 rfl 2 rfl ?_
      obtain ⟨hg35, hf⟩ := xg_s hf
      refine xV_iaload 36 rfl dX7_eights_35 rfl (xin_ok hg35) rfl ?_
      refine xV_bipush 38 rfl dX7_eights_36 xy_b55 ?_
      refine xV_icmp_le (tgt := 43) 41 rfl dX7_eights_38 (by decide) (fun h38 => ?_) (fun h38 => ?_)
      · have hf := xif_t hf h38
        refine xV_iload_n 44 rfl dX7_eights_43 rfl 1 rfl ?_
        refine xV_bipush 46 rfl dX7_eights_44 xy_b8 ?_
        refine xV_imul 47 rfl dX7_eights_46 ?_
        refine xV_aload_n 48 rfl dX7_eights_47 rfl 0 rfl ?_
        refine xV_get (v := .ref 1) 51 rfl dX7_eights_48 f7_9 rfl rfl ?_
        refine xV_iload_n 52 rfl dX7_eights_51 rfl 2 rfl ?_
        obtain ⟨hg52, hf⟩ := xg_s hf
        refine xV_iaload 53 rfl dX7_eights_52 rfl (xin_ok hg52) rfl ?_
        refine xV_iadd 54 rfl dX7_eights_53 ?_
        refine xV_bipush 56 rfl dX7_eights_54 xy_b48 ?_
        refine xV_isub 57 rfl dX7_eights_56 ?_
        refine xV_istore_n (L' := [(2, .int (((x2 * (8 : Int32)) + (c_bytes (xn x3))) - (48 : Int32))), (0, .ref 0), (3, .int x3)]) 58 rfl dX7_eights_57 rfl (xlt rfl) rfl ?_
        refine xV_iinc (L' := [(3, .int (x3 + (1 : Int32))), (2, .int (((x2 * (8 : Int32)) + (c_bytes (xn x3))) - (48 : Int32))), (0, .ref 0)]) 61 rfl dX7_eights_58 2 rfl (xk_inc xy_i1) (xlt rfl) rfl ?_
        refine xV_goto (tgt := 22) dX7_eights_61 (by decide) ?_
        refine xV_sub [2, 1, 0] rfl ?_
        exact ih hf
      · have hf := xif_f hf h38
        refine xV_iconst 42 rfl dX7_eights_41 xy_im1 ?_
        obtain rfl := Option.some.inj hf
        exact xV_iret hX dX7_eights_42 rfl (Nat.zero_le _) (Nat.zero_le _)
def F7_eights (z : Nat) (x1 : Int32) (c_bytes : (Nat → Int32)) (c_from : Int32) (c_behind : Int32) : Option (Int32) :=
  if (c_behind - c_from) = x1 then (F7_eights_b22 z z (0 : Int32) c_from c_bytes c_from c_behind) else (some ((-1 : Int32)))
theorem T7_eights {X : xX} {z : Nat} {x1 : Int32} {c_bytes : (Nat → Int32)} {c_from : Int32} {c_behind : Int32} {c_many : Int32} {c_kind : Int32} {c_end : Int32} {v : Int32} (hX : xIs (j7_eights) X ((some .int)) (some (.int v)) (hT c_bytes c_many c_kind c_from c_behind c_end)) (hf : F7_eights z x1 c_bytes c_from c_behind = some v) : xV (j7_eights) X 0 0 (hT c_bytes c_many c_kind c_from c_behind c_end) 0 [(0, .ref 0), (1, .int x1)] [] := by
  unfold F7_eights at hf
  refine xV_aload_n 1 rfl dX7_eights_0 rfl 0 rfl ?_
  refine xV_get (v := .int c_behind) 4 rfl dX7_eights_1 f7_28 rfl rfl ?_
  refine xV_aload_n 5 rfl dX7_eights_4 rfl 0 rfl ?_
  refine xV_get (v := .int c_from) 8 rfl dX7_eights_5 f7_34 rfl rfl ?_
  refine xV_isub 9 rfl dX7_eights_8 ?_
  refine xV_iload_n 10 rfl dX7_eights_9 rfl 1 rfl ?_
  refine xV_icmp_eq (tgt := 15) 13 rfl dX7_eights_10 (by decide) (fun h10 => ?_) (fun h10 => ?_)
  · have hf := xif_t hf h10
    refine xV_iconst 16 rfl dX7_eights_15 xy_i0 ?_
    refine xV_istore_n (L' := [(2, .int (0 : Int32)), (0, .ref 0), (1, .int x1)]) 17 rfl dX7_eights_16 rfl (xlt rfl) rfl ?_
    refine xV_aload_n 18 rfl dX7_eights_17 rfl 1 rfl ?_
    refine xV_get (v := .int c_from) 21 rfl dX7_eights_18 f7_34 rfl rfl ?_
    refine xV_istore_n (L' := [(3, .int c_from), (2, .int (0 : Int32)), (0, .ref 0), (1, .int x1)]) 22 rfl dX7_eights_21 rfl (xlt rfl) rfl ?_
    refine xV_sub [2, 1, 0] rfl ?_
    exact T7_eights_b22 hX _ hf
  · have hf := xif_f hf h10
    refine xV_iconst 14 rfl dX7_eights_13 xy_im1 ?_
    obtain rfl := Option.some.inj hf
    exact xV_iret hX dX7_eights_14 rfl (Nat.zero_le _) (Nat.zero_le _)
theorem C7_eights (l : Launch) {z : Nat} {x1 : Int32} {c_bytes : (Nat → Int32)} {c_from : Int32} {c_behind : Int32} {c_many : Int32} {c_kind : Int32} {c_end : Int32} {v : Int32} (hf : F7_eights z x1 c_bytes c_from c_behind = some v) : xCt l yX7_eights ((some .int)) j7_eights [.ref 0, .int x1] (hT c_bytes c_many c_kind c_from c_behind c_end) (some (.int v)) (hT c_bytes c_many c_kind c_from c_behind c_end) := xCt_of (by decide) rfl (Nat.le_of_ble_eq_true rfl) (fun _ hX => T7_eights hX hf)
theorem m7_eights : xMd yX7_eights RX7 ((some .int)) j7_eights 1 := ⟨List.mem_of_getElem? (i := 364) (by decide +kernel), List.mem_of_getElem? (i := 81) (by decide +kernel), rfl, by decide +kernel⟩
theorem v7_eights : xMv yX7_eights RX7 := ⟨List.mem_of_getElem? (i := 362) (by decide +kernel), List.mem_of_getElem? (i := 363) (by decide +kernel)⟩
