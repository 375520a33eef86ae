/-! ===== lookupswitch of two labels ===== -/
theorem xV_lin {J : xJ} {X : xX} {n k : Nat} {h : xHp} {pc : Nat} {L : List (Nat × Value)} {st : List Value} {dflt : Int} {ps : Array (Int × Int)} {len tgt : Nat} {x v : Int32} (hd : decode J.1 pc = .ok (.lookupswitch dflt ps, len)) (hx : x = v) (hp : (ps.toList.zip (ps.toList.drop 1)).all (fun (a, next) => a.1 < next.1) = true) (ho : Op.lookupswitch.offset ps.toList dflt v.toInt = (tgt : Int) - (pc : Int)) (_u : True) (kk : xV J X n k h tgt L st) : xV J X n k h pc L (.int x :: st) := by
  obtain ⟨⟨p, l, e, s, m⟩, ⟨args, below, meth, c⟩, ⟨dC, dI, aC⟩, r, A, Q⟩ := X
  intro S hK hA H locs ls hP hD hS hl
  subst hx
  exact lv_lookup S.1 S.2.1 hd hp ho (by omega) (kk S hK hA H locs ls hP hD hS hl)
theorem xV_lout {J : xJ} {X : xX} {n k : Nat} {h : xHp} {pc : Nat} {L : List (Nat × Value)} {st : List Value} {dflt a b o o' : Int} {len tgt : Nat} {x : Int32} (hd : decode J.1 pc = .ok (.lookupswitch dflt #[(a, o), (b, o')], len)) (hp : a < b) (h0 : ¬ x = Int32.ofInt a) (h1 : ¬ x = Int32.ofInt b) (ht : (pc : Int) + dflt = (tgt : Int)) (kk : xV J X n k h tgt L st) : xV J X n k h pc L (.int x :: st) := by
  obtain ⟨⟨p, l, e, s, m⟩, ⟨args, below, meth, c⟩, ⟨dC, dI, aC⟩, r, A, Q⟩ := X
  intro S hK hA H locs ls hP hD hS hl
  refine lv_lookup S.1 S.2.1 hd (by simp [hp]) ?_ ht (kk S hK hA H locs ls hP hD hS hl)
  show Op.lookupswitch.offset [(a, o), (b, o')] dflt x.toInt = dflt
  rw [Op.lookupswitch.offset_cons, if_neg (fun e => h0 (by rw [e, Int32.ofInt_toInt])), Op.lookupswitch.offset_cons, if_neg (fun e => h1 (by rw [e, Int32.ofInt_toInt]))]
  rfl
