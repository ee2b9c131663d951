theorem mvl_at {E : Ev} {lv : List (Nat × Value)} {j i : Nat} {v : Value} (h : lv[j]? = some (i, v)) : (mvl E lv)[j]? = some (i, mv E v) := by
  unfold mvl
  rw [List.getElem?_map, h]
  rfl
theorem mvl_fil {E : Ev} {i : Nat} {v : Value} : ∀ (lv : List (Nat × Value)), mvl E ((i, v) :: lv.filter (fun q => !(q.1 == i) && !(q.1 + 1 == i && q.2.category == 2))) = (i, mv E v) :: (mvl E lv).filter (fun q => !(q.1 == i) && !(q.1 + 1 == i && q.2.category == 2)) := by
  intro lv
  unfold mvl
  rw [List.map_cons, List.filter_map]
  congr 2
  apply List.filter_congr
  intro q _
  show _ = (!(q.1 == i) && !(q.1 + 1 == i && (mv E q.2).category == 2))
  rw [mv_cat]
theorem mvl_pick {E : Ev} (lv : List (Nat × Value)) (ks : List Nat) : lv_pick (mvl E lv) ks = mvl E (lv_pick lv ks) := by
  unfold lv_pick mvl
  rw [List.map_filterMap]
  congr 1
  funext k
  rw [List.getElem?_map]
theorem r_iconst {E : Ev} {M : Mi} {d : Nat × Nat × Bool} {Q : Option Value → Wd → Prop} {k pc : Nat} {lv : List (Nat × Value)} {st : List Value} {w : Wd} {n : Int} {v : Int32} (hd : decode M.2.1 pc = .ok (.iconst n, 1)) (hv : Int32.ofInt n = v) (h : Runs E M d Q k (pc + 1) lv (.int v :: st) w) : Runs E M d Q k pc lv st w := by
  intro p e s m args below meth c A H locs ls hf hw hl
  exact lv_iconst hf.1 hf.2.1 hd hv (h p e s m args below meth c A H locs ls hf hw hl)
theorem r_bipush {E : Ev} {M : Mi} {d : Nat × Nat × Bool} {Q : Option Value → Wd → Prop} {k pc : Nat} {lv : List (Nat × Value)} {st : List Value} {w : Wd} {n : Int} {v : Int32} (hd : decode M.2.1 pc = .ok (.bipush n, 2)) (hv : (Int8.ofInt n).toInt32 = v) (h : Runs E M d Q k (pc + 2) lv (.int v :: st) w) : Runs E M d Q k pc lv st w := by
  intro p e s m args below meth c A H locs ls hf hw hl
  exact lv_bipush hf.1 hf.2.1 hd hv (h p e s m args below meth c A H locs ls hf hw hl)
theorem r_sipush {E : Ev} {M : Mi} {d : Nat × Nat × Bool} {Q : Option Value → Wd → Prop} {k pc : Nat} {lv : List (Nat × Value)} {st : List Value} {w : Wd} {n : Int} {v : Int32} (hd : decode M.2.1 pc = .ok (.sipush n, 3)) (hv : (Int16.ofInt n).toInt32 = v) (h : Runs E M d Q k (pc + 3) lv (.int v :: st) w) : Runs E M d Q k pc lv st w := by
  intro p e s m args below meth c A H locs ls hf hw hl
  exact lv_sipush hf.1 hf.2.1 hd hv (h p e s m args below meth c A H locs ls hf hw hl)
theorem r_lconst {E : Ev} {M : Mi} {d : Nat × Nat × Bool} {Q : Option Value → Wd → Prop} {k pc : Nat} {lv : List (Nat × Value)} {st : List Value} {w : Wd} {n : Fin 2} {v : Int64} (hd : decode M.2.1 pc = .ok (.lconst n, 1)) (hv : Int64.ofNat (n : Nat) = v) (h : Runs E M d Q k (pc + 1) lv (.long v :: st) w) : Runs E M d Q k pc lv st w := by
  intro p e s m args below meth c A H locs ls hf hw hl
  exact lv_lconst hf.1 hf.2.1 hd hv (h p e s m args below meth c A H locs ls hf hw hl)
theorem r_null {E : Ev} {M : Mi} {d : Nat × Nat × Bool} {Q : Option Value → Wd → Prop} {k pc : Nat} {lv : List (Nat × Value)} {st : List Value} {w : Wd}  (hd : decode M.2.1 pc = .ok (.aconst_null, 1)) (h : Runs E M d Q k (pc + 1) lv (.null :: st) w) : Runs E M d Q k pc lv st w := by
  intro p e s m args below meth c A H locs ls hf hw hl
  exact lv_null hf.1 hf.2.1 hd (h p e s m args below meth c A H locs ls hf hw hl)
theorem r_iadd {E : Ev} {M : Mi} {d : Nat × Nat × Bool} {Q : Option Value → Wd → Prop} {k pc : Nat} {lv : List (Nat × Value)} {st : List Value} {w : Wd} {x y : Int32} (hd : decode M.2.1 pc = .ok (.iadd, 1)) (h : Runs E M d Q k (pc + 1) lv (.int (x + y) :: st) w) : Runs E M d Q k pc lv (.int y :: .int x :: st) w := by
  intro p e s m args below meth c A H locs ls hf hw hl
  exact lv_iadd hf.1 hf.2.1 hd (h p e s m args below meth c A H locs ls hf hw hl)
theorem r_isub {E : Ev} {M : Mi} {d : Nat × Nat × Bool} {Q : Option Value → Wd → Prop} {k pc : Nat} {lv : List (Nat × Value)} {st : List Value} {w : Wd} {x y : Int32} (hd : decode M.2.1 pc = .ok (.isub, 1)) (h : Runs E M d Q k (pc + 1) lv (.int (x - y) :: st) w) : Runs E M d Q k pc lv (.int y :: .int x :: st) w := by
  intro p e s m args below meth c A H locs ls hf hw hl
  exact lv_isub hf.1 hf.2.1 hd (h p e s m args below meth c A H locs ls hf hw hl)
theorem r_imul {E : Ev} {M : Mi} {d : Nat × Nat × Bool} {Q : Option Value → Wd → Prop} {k pc : Nat} {lv : List (Nat × Value)} {st : List Value} {w : Wd} {x y : Int32} (hd : decode M.2.1 pc = .ok (.imul, 1)) (h : Runs E M d Q k (pc + 1) lv (.int (x * y) :: st) w) : Runs E M d Q k pc lv (.int y :: .int x :: st) w := by
  intro p e s m args below meth c A H locs ls hf hw hl
  exact lv_imul hf.1 hf.2.1 hd (h p e s m args below meth c A H locs ls hf hw hl)
theorem r_iand {E : Ev} {M : Mi} {d : Nat × Nat × Bool} {Q : Option Value → Wd → Prop} {k pc : Nat} {lv : List (Nat × Value)} {st : List Value} {w : Wd} {x y : Int32} (hd : decode M.2.1 pc = .ok (.iand, 1)) (h : Runs E M d Q k (pc + 1) lv (.int (x &&& y) :: st) w) : Runs E M d Q k pc lv (.int y :: .int x :: st) w := by
  intro p e s m args below meth c A H locs ls hf hw hl
  exact lv_iand hf.1 hf.2.1 hd (h p e s m args below meth c A H locs ls hf hw hl)
theorem r_ior {E : Ev} {M : Mi} {d : Nat × Nat × Bool} {Q : Option Value → Wd → Prop} {k pc : Nat} {lv : List (Nat × Value)} {st : List Value} {w : Wd} {x y : Int32} (hd : decode M.2.1 pc = .ok (.ior, 1)) (h : Runs E M d Q k (pc + 1) lv (.int (x ||| y) :: st) w) : Runs E M d Q k pc lv (.int y :: .int x :: st) w := by
  intro p e s m args below meth c A H locs ls hf hw hl
  exact lv_ior hf.1 hf.2.1 hd (h p e s m args below meth c A H locs ls hf hw hl)
theorem r_ixor {E : Ev} {M : Mi} {d : Nat × Nat × Bool} {Q : Option Value → Wd → Prop} {k pc : Nat} {lv : List (Nat × Value)} {st : List Value} {w : Wd} {x y : Int32} (hd : decode M.2.1 pc = .ok (.ixor, 1)) (h : Runs E M d Q k (pc + 1) lv (.int (x ^^^ y) :: st) w) : Runs E M d Q k pc lv (.int y :: .int x :: st) w := by
  intro p e s m args below meth c A H locs ls hf hw hl
  exact lv_ixor hf.1 hf.2.1 hd (h p e s m args below meth c A H locs ls hf hw hl)
theorem r_idiv {E : Ev} {M : Mi} {d : Nat × Nat × Bool} {Q : Option Value → Wd → Prop} {k pc : Nat} {lv : List (Nat × Value)} {st : List Value} {w : Wd} {x y : Int32} (hd : decode M.2.1 pc = .ok (.idiv, 1)) (hn : ¬ y = 0) (h : Runs E M d Q k (pc + 1) lv (.int (x / y) :: st) w) : Runs E M d Q k pc lv (.int y :: .int x :: st) w := by
  intro p e s m args below meth c A H locs ls hf hw hl
  exact lv_idiv hf.1 hf.2.1 hd hn (h p e s m args below meth c A H locs ls hf hw hl)
theorem r_irem {E : Ev} {M : Mi} {d : Nat × Nat × Bool} {Q : Option Value → Wd → Prop} {k pc : Nat} {lv : List (Nat × Value)} {st : List Value} {w : Wd} {x y : Int32} (hd : decode M.2.1 pc = .ok (.irem, 1)) (hn : ¬ y = 0) (h : Runs E M d Q k (pc + 1) lv (.int (x - (x / y) * y) :: st) w) : Runs E M d Q k pc lv (.int y :: .int x :: st) w := by
  intro p e s m args below meth c A H locs ls hf hw hl
  exact lv_irem hf.1 hf.2.1 hd hn (h p e s m args below meth c A H locs ls hf hw hl)
theorem r_ineg {E : Ev} {M : Mi} {d : Nat × Nat × Bool} {Q : Option Value → Wd → Prop} {k pc : Nat} {lv : List (Nat × Value)} {st : List Value} {w : Wd} {x : Int32} (hd : decode M.2.1 pc = .ok (.ineg, 1)) (h : Runs E M d Q k (pc + 1) lv (.int (-x) :: st) w) : Runs E M d Q k pc lv (.int x :: st) w := by
  intro p e s m args below meth c A H locs ls hf hw hl
  exact lv_ineg hf.1 hf.2.1 hd (h p e s m args below meth c A H locs ls hf hw hl)
theorem r_ishl {E : Ev} {M : Mi} {d : Nat × Nat × Bool} {Q : Option Value → Wd → Prop} {k pc : Nat} {lv : List (Nat × Value)} {st : List Value} {w : Wd} {x y : Int32} (hd : decode M.2.1 pc = .ok (.ishl, 1)) (h : Runs E M d Q k (pc + 1) lv (.int (x <<< (y &&& 31)) :: st) w) : Runs E M d Q k pc lv (.int y :: .int x :: st) w := by
  intro p e s m args below meth c A H locs ls hf hw hl
  exact lv_ishl hf.1 hf.2.1 hd (h p e s m args below meth c A H locs ls hf hw hl)
theorem r_ishr {E : Ev} {M : Mi} {d : Nat × Nat × Bool} {Q : Option Value → Wd → Prop} {k pc : Nat} {lv : List (Nat × Value)} {st : List Value} {w : Wd} {x y : Int32} (hd : decode M.2.1 pc = .ok (.ishr, 1)) (h : Runs E M d Q k (pc + 1) lv (.int (x >>> (y &&& 31)) :: st) w) : Runs E M d Q k pc lv (.int y :: .int x :: st) w := by
  intro p e s m args below meth c A H locs ls hf hw hl
  exact lv_ishr hf.1 hf.2.1 hd (h p e s m args below meth c A H locs ls hf hw hl)
theorem r_iushr {E : Ev} {M : Mi} {d : Nat × Nat × Bool} {Q : Option Value → Wd → Prop} {k pc : Nat} {lv : List (Nat × Value)} {st : List Value} {w : Wd} {x y : Int32} (hd : decode M.2.1 pc = .ok (.iushr, 1)) (h : Runs E M d Q k (pc + 1) lv (.int ((x.toUInt32 >>> (y.toUInt32 &&& Int32.toUInt32 31)).toInt32) :: st) w) : Runs E M d Q k pc lv (.int y :: .int x :: st) w := by
  intro p e s m args below meth c A H locs ls hf hw hl
  exact lv_iushr hf.1 hf.2.1 hd rfl (h p e s m args below meth c A H locs ls hf hw hl)
theorem r_ladd {E : Ev} {M : Mi} {d : Nat × Nat × Bool} {Q : Option Value → Wd → Prop} {k pc : Nat} {lv : List (Nat × Value)} {st : List Value} {w : Wd} {x y : Int64} (hd : decode M.2.1 pc = .ok (.ladd, 1)) (h : Runs E M d Q k (pc + 1) lv (.long (x + y) :: st) w) : Runs E M d Q k pc lv (.long y :: .long x :: st) w := by
  intro p e s m args below meth c A H locs ls hf hw hl
  exact lv_ladd hf.1 hf.2.1 hd (h p e s m args below meth c A H locs ls hf hw hl)
theorem r_land {E : Ev} {M : Mi} {d : Nat × Nat × Bool} {Q : Option Value → Wd → Prop} {k pc : Nat} {lv : List (Nat × Value)} {st : List Value} {w : Wd} {x y : Int64} (hd : decode M.2.1 pc = .ok (.land, 1)) (h : Runs E M d Q k (pc + 1) lv (.long (x &&& y) :: st) w) : Runs E M d Q k pc lv (.long y :: .long x :: st) w := by
  intro p e s m args below meth c A H locs ls hf hw hl
  exact lv_land hf.1 hf.2.1 hd (h p e s m args below meth c A H locs ls hf hw hl)
theorem r_lor {E : Ev} {M : Mi} {d : Nat × Nat × Bool} {Q : Option Value → Wd → Prop} {k pc : Nat} {lv : List (Nat × Value)} {st : List Value} {w : Wd} {x y : Int64} (hd : decode M.2.1 pc = .ok (.lor, 1)) (h : Runs E M d Q k (pc + 1) lv (.long (x ||| y) :: st) w) : Runs E M d Q k pc lv (.long y :: .long x :: st) w := by
  intro p e s m args below meth c A H locs ls hf hw hl
  exact lv_lor hf.1 hf.2.1 hd (h p e s m args below meth c A H locs ls hf hw hl)
theorem r_lshl {E : Ev} {M : Mi} {d : Nat × Nat × Bool} {Q : Option Value → Wd → Prop} {k pc : Nat} {lv : List (Nat × Value)} {st : List Value} {w : Wd} {x : Int64} {y : Int32} (hd : decode M.2.1 pc = .ok (.lshl, 1)) (h : Runs E M d Q k (pc + 1) lv (.long (x <<< (y.toInt64 &&& 63)) :: st) w) : Runs E M d Q k pc lv (.int y :: .long x :: st) w := by
  intro p e s m args below meth c A H locs ls hf hw hl
  exact lv_lshl hf.1 hf.2.1 hd rfl (h p e s m args below meth c A H locs ls hf hw hl)
theorem r_i2l {E : Ev} {M : Mi} {d : Nat × Nat × Bool} {Q : Option Value → Wd → Prop} {k pc : Nat} {lv : List (Nat × Value)} {st : List Value} {w : Wd} {x : Int32} (hd : decode M.2.1 pc = .ok (.i2l, 1)) (h : Runs E M d Q k (pc + 1) lv (.long x.toInt64 :: st) w) : Runs E M d Q k pc lv (.int x :: st) w := by
  intro p e s m args below meth c A H locs ls hf hw hl
  exact lv_i2l hf.1 hf.2.1 hd rfl (h p e s m args below meth c A H locs ls hf hw hl)
theorem r_l2i {E : Ev} {M : Mi} {d : Nat × Nat × Bool} {Q : Option Value → Wd → Prop} {k pc : Nat} {lv : List (Nat × Value)} {st : List Value} {w : Wd} {x : Int64} (hd : decode M.2.1 pc = .ok (.l2i, 1)) (h : Runs E M d Q k (pc + 1) lv (.int x.toInt32 :: st) w) : Runs E M d Q k pc lv (.long x :: st) w := by
  intro p e s m args below meth c A H locs ls hf hw hl
  exact lv_l2i hf.1 hf.2.1 hd rfl (h p e s m args below meth c A H locs ls hf hw hl)
theorem r_i2b {E : Ev} {M : Mi} {d : Nat × Nat × Bool} {Q : Option Value → Wd → Prop} {k pc : Nat} {lv : List (Nat × Value)} {st : List Value} {w : Wd} {x : Int32} (hd : decode M.2.1 pc = .ok (.i2b, 1)) (h : Runs E M d Q k (pc + 1) lv (.int x.toInt8.toInt32 :: st) w) : Runs E M d Q k pc lv (.int x :: st) w := by
  intro p e s m args below meth c A H locs ls hf hw hl
  exact lv_i2b hf.1 hf.2.1 hd rfl (h p e s m args below meth c A H locs ls hf hw hl)
theorem r_i2s {E : Ev} {M : Mi} {d : Nat × Nat × Bool} {Q : Option Value → Wd → Prop} {k pc : Nat} {lv : List (Nat × Value)} {st : List Value} {w : Wd} {x : Int32} (hd : decode M.2.1 pc = .ok (.i2s, 1)) (h : Runs E M d Q k (pc + 1) lv (.int x.toInt16.toInt32 :: st) w) : Runs E M d Q k pc lv (.int x :: st) w := by
  intro p e s m args below meth c A H locs ls hf hw hl
  exact lv_i2s hf.1 hf.2.1 hd rfl (h p e s m args below meth c A H locs ls hf hw hl)
theorem r_i2c {E : Ev} {M : Mi} {d : Nat × Nat × Bool} {Q : Option Value → Wd → Prop} {k pc : Nat} {lv : List (Nat × Value)} {st : List Value} {w : Wd} {x : Int32} (hd : decode M.2.1 pc = .ok (.i2c, 1)) (h : Runs E M d Q k (pc + 1) lv (.int ((x.toUInt32 % 65536).toInt32) :: st) w) : Runs E M d Q k pc lv (.int x :: st) w := by
  intro p e s m args below meth c A H locs ls hf hw hl
  exact lv_i2c hf.1 hf.2.1 hd rfl (h p e s m args below meth c A H locs ls hf hw hl)
theorem r_dup {E : Ev} {M : Mi} {d : Nat × Nat × Bool} {Q : Option Value → Wd → Prop} {k pc : Nat} {lv : List (Nat × Value)} {st : List Value} {w : Wd} {v : Value} (hd : decode M.2.1 pc = .ok (.dup, 1)) (hc : v.category = 1) (h : Runs E M d Q k (pc + 1) lv (v :: v :: st) w) : Runs E M d Q k pc lv (v :: st) w := by
  intro p e s m args below meth c A H locs ls hf hw hl
  exact lv_dup hf.1 hf.2.1 hd (by rw [mv_cat]; exact hc) (h p e s m args below meth c A H locs ls hf hw hl)
theorem r_pop {E : Ev} {M : Mi} {d : Nat × Nat × Bool} {Q : Option Value → Wd → Prop} {k pc : Nat} {lv : List (Nat × Value)} {st : List Value} {w : Wd} {v : Value} (hd : decode M.2.1 pc = .ok (.pop, 1)) (hc : v.category = 1) (h : Runs E M d Q k (pc + 1) lv st w) : Runs E M d Q k pc lv (v :: st) w := by
  intro p e s m args below meth c A H locs ls hf hw hl
  exact lv_pop hf.1 hf.2.1 hd (by rw [mv_cat]; exact hc) (h p e s m args below meth c A H locs ls hf hw hl)
theorem r_dup_x1 {E : Ev} {M : Mi} {d : Nat × Nat × Bool} {Q : Option Value → Wd → Prop} {k pc : Nat} {lv : List (Nat × Value)} {st : List Value} {w : Wd} {v u : Value} (hd : decode M.2.1 pc = .ok (.dup_x1, 1)) (hc : v.category = 1) (hc2 : u.category = 1) (h : Runs E M d Q k (pc + 1) lv (v :: u :: v :: st) w) : Runs E M d Q k pc lv (v :: u :: st) w := by
  intro p e s m args below meth c A H locs ls hf hw hl
  exact lv_dup_x1 hf.1 hf.2.1 hd (by rw [mv_cat]; exact hc) (by rw [mv_cat]; exact hc2) (h p e s m args below meth c A H locs ls hf hw hl)
theorem r_dup2 {E : Ev} {M : Mi} {d : Nat × Nat × Bool} {Q : Option Value → Wd → Prop} {k pc : Nat} {lv : List (Nat × Value)} {st : List Value} {w : Wd} {v u : Value} (hd : decode M.2.1 pc = .ok (.dup2, 1)) (hc : v.category = 1) (hc2 : u.category = 1) (h : Runs E M d Q k (pc + 1) lv (v :: u :: v :: u :: st) w) : Runs E M d Q k pc lv (v :: u :: st) w := by
  intro p e s m args below meth c A H locs ls hf hw hl
  exact lv_dup2_11 hf.1 hf.2.1 hd (by rw [mv_cat]; exact hc) (by rw [mv_cat]; exact hc2) (h p e s m args below meth c A H locs ls hf hw hl)
theorem r_dup2l {E : Ev} {M : Mi} {d : Nat × Nat × Bool} {Q : Option Value → Wd → Prop} {k pc : Nat} {lv : List (Nat × Value)} {st : List Value} {w : Wd} {x : Int64} (hd : decode M.2.1 pc = .ok (.dup2, 1)) (h : Runs E M d Q k (pc + 1) lv (.long x :: .long x :: st) w) : Runs E M d Q k pc lv (.long x :: st) w := by
  intro p e s m args below meth c A H locs ls hf hw hl
  exact lv_dup2_2 hf.1 hf.2.1 hd rfl (h p e s m args below meth c A H locs ls hf hw hl)
theorem r_lcmp {E : Ev} {M : Mi} {d : Nat × Nat × Bool} {Q : Option Value → Wd → Prop} {k pc : Nat} {lv : List (Nat × Value)} {st : List Value} {w : Wd} {x y : Int64} (hd : decode M.2.1 pc = .ok (.lcmp, 1)) (h : Runs E M d Q k (pc + 1) lv (.int (lg_cmp x y) :: st) w) : Runs E M d Q k pc lv (.long y :: .long x :: st) w := by
  intro p e s m args below meth c A H locs ls hf hw hl
  exact W.lcmp hf.1 hf.2.1 hd (h p e s m args below meth c A H locs ls hf hw hl)
theorem r_iload_n {E : Ev} {M : Mi} {d : Nat × Nat × Bool} {Q : Option Value → Wd → Prop} {k pc : Nat} {lv : List (Nat × Value)} {st : List Value} {w : Wd} {kk : Fin 4} {x : Int32} (hd : decode M.2.1 pc = .ok (.iload_n kk, 1)) (j : Nat) (hj : lv[j]? = some ((kk : Nat), .int x)) (h : Runs E M d Q k (pc + 1) lv (.int x :: st) w) : Runs E M d Q k pc lv st w := by
  intro p e s m args below meth c A H locs ls hf hw hl
  exact lv_iload_n hf.1 hf.2.1 hd rfl (lv_at hl j (mvl_at hj)) (h p e s m args below meth c A H locs ls hf hw hl)
theorem r_iload {E : Ev} {M : Mi} {d : Nat × Nat × Bool} {Q : Option Value → Wd → Prop} {k pc : Nat} {lv : List (Nat × Value)} {st : List Value} {w : Wd} {i : Nat} {x : Int32} (hd : decode M.2.1 pc = .ok (.iload i, 2)) (j : Nat) (hj : lv[j]? = some (i, .int x)) (h : Runs E M d Q k (pc + 2) lv (.int x :: st) w) : Runs E M d Q k pc lv st w := by
  intro p e s m args below meth c A H locs ls hf hw hl
  exact lv_iload hf.1 hf.2.1 hd (lv_at hl j (mvl_at hj)) (h p e s m args below meth c A H locs ls hf hw hl)
theorem r_lload_n {E : Ev} {M : Mi} {d : Nat × Nat × Bool} {Q : Option Value → Wd → Prop} {k pc : Nat} {lv : List (Nat × Value)} {st : List Value} {w : Wd} {kk : Fin 4} {x : Int64} (hd : decode M.2.1 pc = .ok (.lload_n kk, 1)) (j : Nat) (hj : lv[j]? = some ((kk : Nat), .long x)) (h : Runs E M d Q k (pc + 1) lv (.long x :: st) w) : Runs E M d Q k pc lv st w := by
  intro p e s m args below meth c A H locs ls hf hw hl
  exact lv_lload_n hf.1 hf.2.1 hd rfl (lv_at hl j (mvl_at hj)) (h p e s m args below meth c A H locs ls hf hw hl)
theorem r_lload {E : Ev} {M : Mi} {d : Nat × Nat × Bool} {Q : Option Value → Wd → Prop} {k pc : Nat} {lv : List (Nat × Value)} {st : List Value} {w : Wd} {i : Nat} {x : Int64} (hd : decode M.2.1 pc = .ok (.lload i, 2)) (j : Nat) (hj : lv[j]? = some (i, .long x)) (h : Runs E M d Q k (pc + 2) lv (.long x :: st) w) : Runs E M d Q k pc lv st w := by
  intro p e s m args below meth c A H locs ls hf hw hl
  exact lv_lload hf.1 hf.2.1 hd (lv_at hl j (mvl_at hj)) (h p e s m args below meth c A H locs ls hf hw hl)
theorem r_aload_n {E : Ev} {M : Mi} {d : Nat × Nat × Bool} {Q : Option Value → Wd → Prop} {k pc : Nat} {lv : List (Nat × Value)} {st : List Value} {w : Wd} {kk : Fin 4} {x : Nat} (hd : decode M.2.1 pc = .ok (.aload_n kk, 1)) (j : Nat) (hj : lv[j]? = some ((kk : Nat), .ref x)) (h : Runs E M d Q k (pc + 1) lv (.ref x :: st) w) : Runs E M d Q k pc lv st w := by
  intro p e s m args below meth c A H locs ls hf hw hl
  exact lv_aload_n hf.1 hf.2.1 hd rfl (lv_at hl j (mvl_at hj)) (h p e s m args below meth c A H locs ls hf hw hl)
theorem r_aload {E : Ev} {M : Mi} {d : Nat × Nat × Bool} {Q : Option Value → Wd → Prop} {k pc : Nat} {lv : List (Nat × Value)} {st : List Value} {w : Wd} {i : Nat} {x : Nat} (hd : decode M.2.1 pc = .ok (.aload i, 2)) (j : Nat) (hj : lv[j]? = some (i, .ref x)) (h : Runs E M d Q k (pc + 2) lv (.ref x :: st) w) : Runs E M d Q k pc lv st w := by
  intro p e s m args below meth c A H locs ls hf hw hl
  exact lv_aload hf.1 hf.2.1 hd (lv_at hl j (mvl_at hj)) (h p e s m args below meth c A H locs ls hf hw hl)
theorem r_istore_n {E : Ev} {M : Mi} {d : Nat × Nat × Bool} {Q : Option Value → Wd → Prop} {k pc : Nat} {lv : List (Nat × Value)} {st : List Value} {w : Wd} {kk : Fin 4} {i : Nat} {x : Int32} (hd : decode M.2.1 pc = .ok (.istore_n kk, 1)) (hi : (kk : Nat) = i) (hn : i < M.2.2.1) (lv' : List (Nat × Value)) (hv : (i, Value.int x) :: lv.filter (fun q => !(q.1 == i) && !(q.1 + 1 == i && q.2.category == 2)) = lv') (h : Runs E M d Q k (pc + 1) lv' st w) : Runs E M d Q k pc lv (.int x :: st) w := by
  intro p e s m args below meth c A H locs ls hf hw hl
  exact lv_istore_n (lv' := mvl E lv') hf.1 hf.2.1 hd hi hl hn (by rw [← hv, mvl_fil]; rfl) (fun ls' hl' => h p e s m args below meth c A H locs ls' hf hw hl')
theorem r_istore {E : Ev} {M : Mi} {d : Nat × Nat × Bool} {Q : Option Value → Wd → Prop} {k pc : Nat} {lv : List (Nat × Value)} {st : List Value} {w : Wd} {i : Nat} {x : Int32} (hd : decode M.2.1 pc = .ok (.istore i, 2)) (hn : i < M.2.2.1) (lv' : List (Nat × Value)) (hv : (i, Value.int x) :: lv.filter (fun q => !(q.1 == i) && !(q.1 + 1 == i && q.2.category == 2)) = lv') (h : Runs E M d Q k (pc + 2) lv' st w) : Runs E M d Q k pc lv (.int x :: st) w := by
  intro p e s m args below meth c A H locs ls hf hw hl
  exact lv_istore (lv' := mvl E lv') hf.1 hf.2.1 hd hl hn (by rw [← hv, mvl_fil]; rfl) (fun ls' hl' => h p e s m args below meth c A H locs ls' hf hw hl')
theorem r_astore_n {E : Ev} {M : Mi} {d : Nat × Nat × Bool} {Q : Option Value → Wd → Prop} {k pc : Nat} {lv : List (Nat × Value)} {st : List Value} {w : Wd} {kk : Fin 4} {i : Nat} {x : Nat} (hd : decode M.2.1 pc = .ok (.astore_n kk, 1)) (hi : (kk : Nat) = i) (hn : i < M.2.2.1) (lv' : List (Nat × Value)) (hv : (i, Value.ref x) :: lv.filter (fun q => !(q.1 == i) && !(q.1 + 1 == i && q.2.category == 2)) = lv') (h : Runs E M d Q k (pc + 1) lv' st w) : Runs E M d Q k pc lv (.ref x :: st) w := by
  intro p e s m args below meth c A H locs ls hf hw hl
  exact lv_astore_n (lv' := mvl E lv') hf.1 hf.2.1 hd hi hl hn (by rw [← hv, mvl_fil]; rfl) (fun ls' hl' => h p e s m args below meth c A H locs ls' hf hw hl')
theorem r_astore {E : Ev} {M : Mi} {d : Nat × Nat × Bool} {Q : Option Value → Wd → Prop} {k pc : Nat} {lv : List (Nat × Value)} {st : List Value} {w : Wd} {i : Nat} {x : Nat} (hd : decode M.2.1 pc = .ok (.astore i, 2)) (hn : i < M.2.2.1) (lv' : List (Nat × Value)) (hv : (i, Value.ref x) :: lv.filter (fun q => !(q.1 == i) && !(q.1 + 1 == i && q.2.category == 2)) = lv') (h : Runs E M d Q k (pc + 2) lv' st w) : Runs E M d Q k pc lv (.ref x :: st) w := by
  intro p e s m args below meth c A H locs ls hf hw hl
  exact lv_astore (lv' := mvl E lv') hf.1 hf.2.1 hd hl hn (by rw [← hv, mvl_fil]; rfl) (fun ls' hl' => h p e s m args below meth c A H locs ls' hf hw hl')
theorem r_iinc {E : Ev} {M : Mi} {d : Nat × Nat × Bool} {Q : Option Value → Wd → Prop} {k pc : Nat} {lv : List (Nat × Value)} {st : List Value} {w : Wd} {i : Nat} {n : Int} {x v : Int32} (hd : decode M.2.1 pc = .ok (.iinc i n, 3)) (j : Nat) (hj : lv[j]? = some (i, .int x)) (hx : x + Int32.ofInt n = v) (hn : i < M.2.2.1) (lv' : List (Nat × Value)) (hv : (i, Value.int v) :: lv.filter (fun q => !(q.1 == i) && !(q.1 + 1 == i && q.2.category == 2)) = lv') (h : Runs E M d Q k (pc + 3) lv' st w) : Runs E M d Q k pc lv st w := by
  intro p e s m args below meth c A H locs ls hf hw hl
  exact lv_iinc (k := j) (lv' := mvl E lv') hf.1 hf.2.1 hd hl (mvl_at hj) hx hn (by rw [← hv, mvl_fil]; rfl) (fun ls' hl' => h p e s m args below meth c A H locs ls' hf hw hl')
theorem r_sub {E : Ev} {M : Mi} {d : Nat × Nat × Bool} {Q : Option Value → Wd → Prop} {k pc : Nat} {lv : List (Nat × Value)} {st : List Value} {w : Wd} (ks : List Nat) (lv' : List (Nat × Value)) (hv : lv_pick lv ks = lv') (h : Runs E M d Q k pc lv' st w) : Runs E M d Q k pc lv st w := by
  intro p e s m args below meth c A H locs ls hf hw hl
  exact h p e s m args below meth c A H locs ls hf hw (lv_sub hl ks (by rw [← hv, mvl_pick]))
theorem r_goto {E : Ev} {M : Mi} {d : Nat × Nat × Bool} {Q : Option Value → Wd → Prop} {k pc : Nat} {lv : List (Nat × Value)} {st : List Value} {w : Wd} {off : Int} {tgt : Nat} (hd : decode M.2.1 pc = .ok (.goto off, 3)) (ht : (pc : Int) + off = (tgt : Int)) (h : Runs E M d Q k tgt lv st w) : Runs E M d Q k pc lv st w := by
  intro p e s m args below meth c A H locs ls hf hw hl
  exact lv_goto hf.1 hf.2.1 hd ht (h p e s m args below meth c A H locs ls hf hw hl)
theorem r_icmp_eq {E : Ev} {M : Mi} {d : Nat × Nat × Bool} {Q : Option Value → Wd → Prop} {k pc : Nat} {lv : List (Nat × Value)} {st : List Value} {w : Wd} {x y : Int32} {off : Int} {tgt : Nat} (hd : decode M.2.1 pc = .ok (.if_icmp .eq off, 3)) (ht : (pc : Int) + off = (tgt : Int)) (ha : x = y → Runs E M d Q k tgt lv st w) (hb : ¬ x = y → Runs E M d Q k (pc + 3) lv st w) : Runs E M d Q k pc lv (.int y :: .int x :: st) w := by
  intro p e s m args below meth c A H locs ls hf hw hl
  exact lv_icmp_eq hf.1 hf.2.1 hd ht (fun q => ha q p e s m args below meth c A H locs ls hf hw hl) (fun q => hb q p e s m args below meth c A H locs ls hf hw hl)
theorem r_if_eq {E : Ev} {M : Mi} {d : Nat × Nat × Bool} {Q : Option Value → Wd → Prop} {k pc : Nat} {lv : List (Nat × Value)} {st : List Value} {w : Wd} {x : Int32} {off : Int} {tgt : Nat} (hd : decode M.2.1 pc = .ok (.ifCond .eq off, 3)) (ht : (pc : Int) + off = (tgt : Int)) (ha : x = 0 → Runs E M d Q k tgt lv st w) (hb : ¬ x = 0 → Runs E M d Q k (pc + 3) lv st w) : Runs E M d Q k pc lv (.int x :: st) w := by
  intro p e s m args below meth c A H locs ls hf hw hl
  exact lv_if_eq hf.1 hf.2.1 hd ht (fun q => ha q p e s m args below meth c A H locs ls hf hw hl) (fun q => hb q p e s m args below meth c A H locs ls hf hw hl)
theorem r_icmp_ne {E : Ev} {M : Mi} {d : Nat × Nat × Bool} {Q : Option Value → Wd → Prop} {k pc : Nat} {lv : List (Nat × Value)} {st : List Value} {w : Wd} {x y : Int32} {off : Int} {tgt : Nat} (hd : decode M.2.1 pc = .ok (.if_icmp .ne off, 3)) (ht : (pc : Int) + off = (tgt : Int)) (ha : ¬ x = y → Runs E M d Q k tgt lv st w) (hb : x = y → Runs E M d Q k (pc + 3) lv st w) : Runs E M d Q k pc lv (.int y :: .int x :: st) w := by
  intro p e s m args below meth c A H locs ls hf hw hl
  exact lv_icmp_ne hf.1 hf.2.1 hd ht (fun q => ha q p e s m args below meth c A H locs ls hf hw hl) (fun q => hb q p e s m args below meth c A H locs ls hf hw hl)
theorem r_if_ne {E : Ev} {M : Mi} {d : Nat × Nat × Bool} {Q : Option Value → Wd → Prop} {k pc : Nat} {lv : List (Nat × Value)} {st : List Value} {w : Wd} {x : Int32} {off : Int} {tgt : Nat} (hd : decode M.2.1 pc = .ok (.ifCond .ne off, 3)) (ht : (pc : Int) + off = (tgt : Int)) (ha : ¬ x = 0 → Runs E M d Q k tgt lv st w) (hb : x = 0 → Runs E M d Q k (pc + 3) lv st w) : Runs E M d Q k pc lv (.int x :: st) w := by
  intro p e s m args below meth c A H locs ls hf hw hl
  exact lv_if_ne hf.1 hf.2.1 hd ht (fun q => ha q p e s m args below meth c A H locs ls hf hw hl) (fun q => hb q p e s m args below meth c A H locs ls hf hw hl)
theorem r_icmp_lt {E : Ev} {M : Mi} {d : Nat × Nat × Bool} {Q : Option Value → Wd → Prop} {k pc : Nat} {lv : List (Nat × Value)} {st : List Value} {w : Wd} {x y : Int32} {off : Int} {tgt : Nat} (hd : decode M.2.1 pc = .ok (.if_icmp .lt off, 3)) (ht : (pc : Int) + off = (tgt : Int)) (ha : x < y → Runs E M d Q k tgt lv st w) (hb : ¬ x < y → Runs E M d Q k (pc + 3) lv st w) : Runs E M d Q k pc lv (.int y :: .int x :: st) w := by
  intro p e s m args below meth c A H locs ls hf hw hl
  exact lv_icmp_lt hf.1 hf.2.1 hd ht (fun q => ha q p e s m args below meth c A H locs ls hf hw hl) (fun q => hb q p e s m args below meth c A H locs ls hf hw hl)
theorem r_if_lt {E : Ev} {M : Mi} {d : Nat × Nat × Bool} {Q : Option Value → Wd → Prop} {k pc : Nat} {lv : List (Nat × Value)} {st : List Value} {w : Wd} {x : Int32} {off : Int} {tgt : Nat} (hd : decode M.2.1 pc = .ok (.ifCond .lt off, 3)) (ht : (pc : Int) + off = (tgt : Int)) (ha : x < 0 → Runs E M d Q k tgt lv st w) (hb : ¬ x < 0 → Runs E M d Q k (pc + 3) lv st w) : Runs E M d Q k pc lv (.int x :: st) w := by
  intro p e s m args below meth c A H locs ls hf hw hl
  exact lv_if_lt hf.1 hf.2.1 hd ht (fun q => ha q p e s m args below meth c A H locs ls hf hw hl) (fun q => hb q p e s m args below meth c A H locs ls hf hw hl)
theorem r_icmp_ge {E : Ev} {M : Mi} {d : Nat × Nat × Bool} {Q : Option Value → Wd → Prop} {k pc : Nat} {lv : List (Nat × Value)} {st : List Value} {w : Wd} {x y : Int32} {off : Int} {tgt : Nat} (hd : decode M.2.1 pc = .ok (.if_icmp .ge off, 3)) (ht : (pc : Int) + off = (tgt : Int)) (ha : y ≤ x → Runs E M d Q k tgt lv st w) (hb : ¬ y ≤ x → Runs E M d Q k (pc + 3) lv st w) : Runs E M d Q k pc lv (.int y :: .int x :: st) w := by
  intro p e s m args below meth c A H locs ls hf hw hl
  exact lv_icmp_ge hf.1 hf.2.1 hd ht (fun q => ha q p e s m args below meth c A H locs ls hf hw hl) (fun q => hb q p e s m args below meth c A H locs ls hf hw hl)
theorem r_if_ge {E : Ev} {M : Mi} {d : Nat × Nat × Bool} {Q : Option Value → Wd → Prop} {k pc : Nat} {lv : List (Nat × Value)} {st : List Value} {w : Wd} {x : Int32} {off : Int} {tgt : Nat} (hd : decode M.2.1 pc = .ok (.ifCond .ge off, 3)) (ht : (pc : Int) + off = (tgt : Int)) (ha : 0 ≤ x → Runs E M d Q k tgt lv st w) (hb : ¬ 0 ≤ x → Runs E M d Q k (pc + 3) lv st w) : Runs E M d Q k pc lv (.int x :: st) w := by
  intro p e s m args below meth c A H locs ls hf hw hl
  exact lv_if_ge hf.1 hf.2.1 hd ht (fun q => ha q p e s m args below meth c A H locs ls hf hw hl) (fun q => hb q p e s m args below meth c A H locs ls hf hw hl)
theorem r_icmp_gt {E : Ev} {M : Mi} {d : Nat × Nat × Bool} {Q : Option Value → Wd → Prop} {k pc : Nat} {lv : List (Nat × Value)} {st : List Value} {w : Wd} {x y : Int32} {off : Int} {tgt : Nat} (hd : decode M.2.1 pc = .ok (.if_icmp .gt off, 3)) (ht : (pc : Int) + off = (tgt : Int)) (ha : y < x → Runs E M d Q k tgt lv st w) (hb : ¬ y < x → Runs E M d Q k (pc + 3) lv st w) : Runs E M d Q k pc lv (.int y :: .int x :: st) w := by
  intro p e s m args below meth c A H locs ls hf hw hl
  exact lv_icmp_gt hf.1 hf.2.1 hd ht (fun q => ha q p e s m args below meth c A H locs ls hf hw hl) (fun q => hb q p e s m args below meth c A H locs ls hf hw hl)
theorem r_if_gt {E : Ev} {M : Mi} {d : Nat × Nat × Bool} {Q : Option Value → Wd → Prop} {k pc : Nat} {lv : List (Nat × Value)} {st : List Value} {w : Wd} {x : Int32} {off : Int} {tgt : Nat} (hd : decode M.2.1 pc = .ok (.ifCond .gt off, 3)) (ht : (pc : Int) + off = (tgt : Int)) (ha : 0 < x → Runs E M d Q k tgt lv st w) (hb : ¬ 0 < x → Runs E M d Q k (pc + 3) lv st w) : Runs E M d Q k pc lv (.int x :: st) w := by
  intro p e s m args below meth c A H locs ls hf hw hl
  exact lv_if_gt hf.1 hf.2.1 hd ht (fun q => ha q p e s m args below meth c A H locs ls hf hw hl) (fun q => hb q p e s m args below meth c A H locs ls hf hw hl)
theorem r_icmp_le {E : Ev} {M : Mi} {d : Nat × Nat × Bool} {Q : Option Value → Wd → Prop} {k pc : Nat} {lv : List (Nat × Value)} {st : List Value} {w : Wd} {x y : Int32} {off : Int} {tgt : Nat} (hd : decode M.2.1 pc = .ok (.if_icmp .le off, 3)) (ht : (pc : Int) + off = (tgt : Int)) (ha : x ≤ y → Runs E M d Q k tgt lv st w) (hb : ¬ x ≤ y → Runs E M d Q k (pc + 3) lv st w) : Runs E M d Q k pc lv (.int y :: .int x :: st) w := by
  intro p e s m args below meth c A H locs ls hf hw hl
  exact lv_icmp_le hf.1 hf.2.1 hd ht (fun q => ha q p e s m args below meth c A H locs ls hf hw hl) (fun q => hb q p e s m args below meth c A H locs ls hf hw hl)
theorem r_if_le {E : Ev} {M : Mi} {d : Nat × Nat × Bool} {Q : Option Value → Wd → Prop} {k pc : Nat} {lv : List (Nat × Value)} {st : List Value} {w : Wd} {x : Int32} {off : Int} {tgt : Nat} (hd : decode M.2.1 pc = .ok (.ifCond .le off, 3)) (ht : (pc : Int) + off = (tgt : Int)) (ha : x ≤ 0 → Runs E M d Q k tgt lv st w) (hb : ¬ x ≤ 0 → Runs E M d Q k (pc + 3) lv st w) : Runs E M d Q k pc lv (.int x :: st) w := by
  intro p e s m args below meth c A H locs ls hf hw hl
  exact lv_if_le hf.1 hf.2.1 hd ht (fun q => ha q p e s m args below meth c A H locs ls hf hw hl) (fun q => hb q p e s m args below meth c A H locs ls hf hw hl)
theorem r_tabIn {E : Ev} {M : Mi} {d : Nat × Nat × Bool} {Q : Option Value → Wd → Prop} {k pc : Nat} {lv : List (Nat × Value)} {st : List Value} {w : Wd} {dflt lo hi : Int} {offs : Array Int} {len : Nat} {x : Int32} {off : Int} {tgt : Nat} (hd : decode M.2.1 pc = .ok (.tableswitch dflt lo hi offs, len)) (h1 : ¬ x.toInt < lo) (h2 : ¬ hi < x.toInt) (ho : offs[(x.toInt - lo).toNat]? = some off) (ht : (pc : Int) + off = (tgt : Int)) (h : Runs E M d Q k tgt lv st w) : Runs E M d Q k pc lv (.int x :: st) w := by
  intro p e s m args below meth c A H locs ls hf hw hl
  exact lv_tableIn hf.1 hf.2.1 hd h1 h2 ho ht (h p e s m args below meth c A H locs ls hf hw hl)
theorem r_tabOut {E : Ev} {M : Mi} {d : Nat × Nat × Bool} {Q : Option Value → Wd → Prop} {k pc : Nat} {lv : List (Nat × Value)} {st : List Value} {w : Wd} {dflt lo hi : Int} {offs : Array Int} {len : Nat} {x : Int32} {tgt : Nat} (hd : decode M.2.1 pc = .ok (.tableswitch dflt lo hi offs, len)) (hx : x.toInt < lo ∨ hi < x.toInt) (ht : (pc : Int) + dflt = (tgt : Int)) (h : Runs E M d Q k tgt lv st w) : Runs E M d Q k pc lv (.int x :: st) w := by
  intro p e s m args below meth c A H locs ls hf hw hl
  exact lv_tableOut hf.1 hf.2.1 hd hx ht (h p e s m args below meth c A H locs ls hf hw hl)
theorem r_look {E : Ev} {M : Mi} {d : Nat × Nat × Bool} {Q : Option Value → Wd → Prop} {k pc : Nat} {lv : List (Nat × Value)} {st : List Value} {w : Wd} {dflt : Int} {ps : Array (Int × Int)} {len : Nat} {x : Int32} {off : Int} {tgt : Nat} (hd : decode M.2.1 pc = .ok (.lookupswitch dflt ps, len)) (hp : (ps.toList.zip (ps.toList.drop 1)).all (fun (a, next) => a.1 < next.1) = true) (ho : Op.lookupswitch.offset ps.toList dflt x.toInt = off) (ht : (pc : Int) + off = (tgt : Int)) (h : Runs E M d Q k tgt lv st w) : Runs E M d Q k pc lv (.int x :: st) w := by
  intro p e s m args below meth c A H locs ls hf hw hl
  exact lv_lookup hf.1 hf.2.1 hd hp ho ht (h p e s m args below meth c A H locs ls hf hw hl)
theorem QC.put {E : Ev} {A : Nat → Prop} {g : Bool} {Q : Option Value → Wd → Prop} {s : State} {H : Heap} {locs : List Loc} {w : Wd} {args : Array Value} (hK : va_K E.2.1 vwCl (tysL E) s) (hw : Wo E A s.heap w g H locs) (r : Option Value) (hq : Q r w) : ∀ t : State, t.heap = H → s.WarmedH t.vm → QC E A g Q args s (.returned (r.map (mv E))) t := by
  intro t ht hW
  exact ⟨⟨r, w, rfl, hq, by rw [ht]; exact hw.1, va_K.moved hW.alike hK, hw.2.1, fun q => by rw [ht]; exact hw.2.2.2 q⟩, hw.2.2.1.F ht⟩
theorem r_ireturn {E : Ev} {M : Mi} {mc : Nat} {d : Nat} {g : Bool} {Q : Option Value → Wd → Prop} {pc : Nat} {lv : List (Nat × Value)} {w : Wd} {v : Int32} {ty : FieldType} (hd : decode M.2.1 pc = .ok (.ireturn, 1)) (hr : M.2.2.2 = some ty) (hn : narrow ty (.int v) = .int v) (hq : Q (some (.int v)) w) : Runs E M (d, mc, g) Q mc pc lv [.int v] w := by
  intro p e s m args below meth c A H locs ls hf hw hl
  have hlocks : meth.locks = false := hf.2.2.2.2.1
  exact W.zret hf.1 hf.2.1 (hf.2.2.2.1.trans hr) hn (QC.put hf.2.2.2.2.2.2.2.2.1 hw (some (.int v)) hq) hw.2.2.1.2.2 hd hlocks
theorem r_lreturn {E : Ev} {M : Mi} {mc : Nat} {d : Nat} {g : Bool} {Q : Option Value → Wd → Prop} {pc : Nat} {lv : List (Nat × Value)} {w : Wd} {v : Int64} (hd : decode M.2.1 pc = .ok (.lreturn, 1)) (hr : M.2.2.2 = some .long) (hq : Q (some (.long v)) w) : Runs E M (d, mc, g) Q mc pc lv [.long v] w := by
  intro p e s m args below meth c A H locs ls hf hw hl
  have hlocks : meth.locks = false := hf.2.2.2.2.1
  exact W.lret hf.1 hf.2.1 (hf.2.2.2.1.trans hr) (QC.put hf.2.2.2.2.2.2.2.2.1 hw (some (.long v)) hq) hw.2.2.1.2.2 hd hlocks
theorem r_areturn {E : Ev} {M : Mi} {mc : Nat} {d : Nat} {g : Bool} {Q : Option Value → Wd → Prop} {pc : Nat} {lv : List (Nat × Value)} {w : Wd} {a : Nat} {n : String} (hd : decode M.2.1 pc = .ok (.areturn, 1)) (hr : M.2.2.2 = some (.object n)) (hq : Q (some (.ref a)) w) : Runs E M (d, mc, g) Q mc pc lv [.ref a] w := by
  intro p e s m args below meth c A H locs ls hf hw hl
  have hlocks : meth.locks = false := hf.2.2.2.2.1
  exact W.aret hf.1 hf.2.1 (hf.2.2.2.1.trans hr) (Or.inl ⟨n, rfl⟩) (Or.inr ⟨_, rfl⟩) (QC.put hf.2.2.2.2.2.2.2.2.1 hw (some (.ref a)) hq) hw.2.2.1.2.2 hd hlocks
theorem r_return {E : Ev} {M : Mi} {mc : Nat} {d : Nat} {g : Bool} {Q : Option Value → Wd → Prop} {pc : Nat} {lv : List (Nat × Value)} {w : Wd} (hd : decode M.2.1 pc = .ok (.return_, 1)) (hr : M.2.2.2 = none) (hq : Q none w) : Runs E M (d, mc, g) Q mc pc lv [] w := by
  intro p e s m args below meth c A H locs ls hf hw hl
  have hlocks : meth.locks = false := hf.2.2.2.2.1
  exact W.vret hf.1 hf.2.1 (hf.2.2.2.1.trans hr) (QC.put hf.2.2.2.2.2.2.2.2.1 hw none hq) hw.2.2.1.2.2 hd hlocks
theorem tys_0 (E : Ev) : (tysL E)[0]? = some (E.2.2.1 0, .int) := rfl
theorem tys_1 (E : Ev) : (tysL E)[1]? = some (E.2.2.1 1, .long) := rfl
def tyC (j : Nat) : String := [RX2, RX2, RX2, RX4, RX6].getD j ""
theorem tys_r (E : Ev) {j : Nat} (h2 : 2 ≤ j) (h3 : j < 5) : (tysL E)[j]? = some (E.2.2.1 j, .object (tyC j)) := by
  rcases (show j = 2 ∨ j = 3 ∨ j = 4 by omega) with rfl | rfl | rfl <;> rfl
theorem inb_lt {i : Int32} {n : Nat} (h : inb i n) : i.toNatClampNeg < n := Nat.not_le.mp fun q => h (Or.inr q)
theorem r_iaload {E : Ev} {M : Mi} {d : Nat × Nat × Bool} {Q : Option Value → Wd → Prop} {k pc : Nat} {lv : List (Nat × Value)} {st : List Value} {w : Wd} {a : Nat} {i : Int32} (hd : decode M.2.1 pc = .ok (.iaload, 1)) (ha : isA w a 0) (hi : inb i (wn w a)) (h : Runs E M d Q k (pc + 1) lv (.int (wI w a i.toNatClampNeg) :: st) w) : Runs E M d Q k pc lv (.int i :: .ref a :: st) w := by
  intro p ev s m args below meth c A H locs ls hf hw hl
  have e := ws_at (E := E) ha.1
  rw [cE_0 ha.2] at e
  exact va_iald hf.1 hf.2.1 hf.2.2.2.2.2.2.2.2.1 hw.1 a 0 e (tys_0 E) hi hd (h p ev s m args below meth c A H locs ls hf hw hl)
theorem r_laload {E : Ev} {M : Mi} {d : Nat × Nat × Bool} {Q : Option Value → Wd → Prop} {k pc : Nat} {lv : List (Nat × Value)} {st : List Value} {w : Wd} {a : Nat} {i : Int32} (hd : decode M.2.1 pc = .ok (.laload, 1)) (ha : isA w a 1) (hi : inb i (wn w a)) (h : Runs E M d Q k (pc + 1) lv (.long (wL w a i.toNatClampNeg) :: st) w) : Runs E M d Q k pc lv (.int i :: .ref a :: st) w := by
  intro p ev s m args below meth c A H locs ls hf hw hl
  have e := ws_at (E := E) ha.1
  rw [cE_1 ha.2] at e
  exact va_lald hf.1 hf.2.1 hf.2.2.2.2.2.2.2.2.1 hw.1 a 1 e (tys_1 E) hi hd (h p ev s m args below meth c A H locs ls hf hw hl)
theorem r_aaload {E : Ev} {M : Mi} {d : Nat × Nat × Bool} {Q : Option Value → Wd → Prop} {k pc : Nat} {lv : List (Nat × Value)} {st : List Value} {w : Wd} {a b : Nat} {i : Int32} (j : Nat) (h2 : 2 ≤ j) (h3 : j < 5) (hd : decode M.2.1 pc = .ok (.aaload, 1)) (ha : isA w a j) (hi : inb i (wn w a)) (hb : wR w a i.toNatClampNeg = some b) (h : Runs E M d Q k (pc + 1) lv (.ref b :: st) w) : Runs E M d Q k pc lv (.int i :: .ref a :: st) w := by
  intro p ev s m args below meth c A H locs ls hf hw hl
  have e := ws_at (E := E) ha.1
  rw [cE_r ha.2 h2 (by omega)] at e
  refine va_aldq hf.1 hf.2.1 hf.2.2.2.2.2.2.2.2.1 hw.1 a j e (tys_r E h2 h3) hi hd ?_
  rw [hb]
  exact h p ev s m args below meth c A H locs ls hf hw hl
theorem Wo.store {E : Ev} {A : Nat → Prop} {H0 H H1 : Heap} {w w' : Wd} {g : Bool} {locs : List Loc} {a j : Nat} (hw : Wo E A H0 w g H locs) (ha : a < wN w) (hN : wN w' = wN w) (hsz : H1.size = H.size) (oq : ∀ q : Nat, q ≠ lo E a → H1[q]? = H[q]?) (hat : va_at E.2.1 vwCl (lo E a, cE E w' a) H1) (ho : ∀ b, b ≠ a → cE E w' b = cE E w b) : Wo E A H0 w' g H1 (locs ++ [⟨lo E a, j⟩]) := by
  have es := ws_set (E := E) ha hN rfl ho
  have e0 := ws_at (E := E) ha
  refine ⟨?_, ?_, hw.2.2.1.put hsz oq (hw.2.1.2 a _ e0), fun q => ?_⟩
  · rw [← es]
    exact hw.1.set hw.2.1 e0 hat oq
  · rw [← es]
    exact hw.2.1.set e0
  · rw [hsz, hN]
    exact hw.2.2.2 q
theorem r_iastore {E : Ev} {M : Mi} {d : Nat × Nat × Bool} {Q : Option Value → Wd → Prop} {k pc : Nat} {lv : List (Nat × Value)} {st : List Value} {w : Wd} {a : Nat} {i x : Int32} (hd : decode M.2.1 pc = .ok (.iastore, 1)) (ha : isA w a 0) (hi : inb i (wn w a)) (h : Runs E M d Q k (pc + 1) lv st (sI w a i.toNatClampNeg x)) : Runs E M d Q k pc lv (.int x :: .int i :: .ref a :: st) w := by
  intro p ev s m args below meth c A H locs ls hf hw hl
  have e := ws_at (E := E) ha.1
  rw [cE_0 ha.2] at e
  refine W.iast hf.1 hf.2.1 (hw.1 a _ e) ((hf.2.2.2.2.2.2.2.2.1.2 0 _ (tys_0 E)).1 _ (fun j => .int (wI w a j))) (fun q => by cases q) (by show ¬ (i < 0 ∨ (arrV _ _ _).slots.size ≤ _); rw [arrV_size]; exact hi) rfl rfl hd fun H1 e1 z oq => ?_
  refine h p ev s m args below meth c A H1 _ ls hf (hw.store ha.1 rfl z oq ?_ (fun b hb => cE_sIr _ hb)) hl
  have hk : wK (sI w a i.toNatClampNeg x) a = 0 := ha.2
  rw [cE_0 hk]
  show H1[lo E a]? = some (vp_cell _ _)
  rw [e1]
  rw [vp_cell_i, vp_cell_i, arrV_store]
  congr 2
  funext q
  simp only [wI, sI, sIr, ua_eq]
  by_cases hq : q = i.toNatClampNeg
  · subst hq
    simp [updV, upd]
  · simp [updV, upd, hq]
theorem r_lastore {E : Ev} {M : Mi} {d : Nat × Nat × Bool} {Q : Option Value → Wd → Prop} {k pc : Nat} {lv : List (Nat × Value)} {st : List Value} {w : Wd} {a : Nat} {i : Int32} {x : Int64} (hd : decode M.2.1 pc = .ok (.lastore, 1)) (ha : isA w a 1) (hi : inb i (wn w a)) (h : Runs E M d Q k (pc + 1) lv st (sL w a i.toNatClampNeg x)) : Runs E M d Q k pc lv (.long x :: .int i :: .ref a :: st) w := by
  intro p ev s m args below meth c A H locs ls hf hw hl
  have e := ws_at (E := E) ha.1
  rw [cE_1 ha.2] at e
  refine W.last hf.1 hf.2.1 (hw.1 a _ e) ((hf.2.2.2.2.2.2.2.2.1.2 1 _ (tys_1 E)).1 _ (fun j => .long (wL w a j))) (fun q => by cases q) (by show ¬ (i < 0 ∨ (arrV _ _ _).slots.size ≤ _); rw [arrV_size]; exact hi) rfl rfl hd fun H1 e1 z oq => ?_
  refine h p ev s m args below meth c A H1 _ ls hf (hw.store ha.1 rfl z oq ?_ (fun b hb => cE_sLr _ hb)) hl
  have hk : wK (sL w a i.toNatClampNeg x) a = 1 := ha.2
  rw [cE_1 hk]
  show H1[lo E a]? = some (vp_cell _ _)
  rw [e1]
  rw [vp_cell_l, vp_cell_l, arrV_store]
  congr 2
  funext q
  simp only [wL, sL, sLr, ua_eq]
  by_cases hq : q = i.toNatClampNeg
  · subst hq
    simp [updV, vp_updL]
  · simp [updV, vp_updL, hq]
theorem r_aastore {E : Ev} {M : Mi} {d : Nat × Nat × Bool} {Q : Option Value → Wd → Prop} {k pc : Nat} {lv : List (Nat × Value)} {st : List Value} {w : Wd} {a b ci : Nat} {i : Int32} (j : Nat) (h2 : 2 ≤ j) (h3 : j < 5) (hc : ∃ (T : u_T) (N : Nat), vwCl[ci]? = some (tyC j, T, N)) (hd : decode M.2.1 pc = .ok (.aastore, 1)) (ha : isA w a j) (hi : inb i (wn w a)) (hb : isO w b ci) (h : Runs E M d Q k (pc + 1) lv st (sR w a i.toNatClampNeg (some b))) : Runs E M d Q k pc lv (.ref b :: .int i :: .ref a :: st) w := by
  intro p ev s m args below meth c A H locs ls hf hw hl
  have e := ws_at (E := E) ha.1
  rw [cE_r ha.2 h2 (by omega)] at e
  have eb := ws_at (E := E) hb.1
  rw [cE_o hb.2] at eb
  obtain ⟨T, N, hc⟩ := hc
  obtain ⟨r', hr', cellV, g1, g2, g3, -⟩ := hw.1 b _ eb
  have hK := hf.2.2.2.2.2.2.2.2.1
  have hcls := (hK.1 ci _ hc).2
  obtain ⟨kA, comp, k1, k2, k3, -⟩ := (hK.2 j _ (tys_r E h2 h3)).2
  have hcomp : comp = E.2.1.1 ci := Option.some.inj (k3.symm.trans hcls.1)
  subst hcomp
  obtain ⟨kC, hkC, -⟩ := hcls.2
  have hlt : i.toNatClampNeg < wn w a := inb_lt hi
  refine W.aast hf.1 hf.2.1 (hw.1 a _ e) (fun q h => by cases h) (fun h => by cases h) k1 k2 rfl hkC ⟨fun q => hi (Or.inl q), by show _ < (arrV _ _ _).slots.size; rw [arrV_size]; exact hlt⟩ g1 (fun q h => by rw [g3] at h; cases h) (by rw [g2]; exact hkC) (by rw [g2]; exact va_assign hcls) rfl rfl hd fun H1 e1 z oq => ?_
  refine h p ev s m args below meth c A H1 _ ls hf (hw.store ha.1 rfl z oq ?_ (fun b hb => cE_sRr _ hb)) hl
  have hk : wK (sR w a i.toNatClampNeg (some b)) a = j := ha.2
  rw [cE_r hk h2 (by omega)]
  show H1[lo E a]? = some (vp_cell _ _)
  rw [e1]
  rw [vp_cell_q, vp_cell_q, arrV_store]
  congr 2
  funext q
  simp only [wR, sR, sRr, ua_eq]
  by_cases hq : q = i.toNatClampNeg
  · subst hq
    simp [updV, va_up, va_rf]
  · simp [updV, va_up, hq]
def cC (ci : Nat) : String := [RX0, RX1, RX2, RX3, RX4, RX5, RX6, RX7, RX8].getD ci ""
def cT (ci : Nat) : u_T := match ci with
  | 0 => TX0
  | 1 => TX1
  | 2 => TX2
  | 3 => TX3
  | 4 => TX4
  | 5 => TX5
  | 6 => TX6
  | 7 => TX7
  | _ => TX8
def cY (ci : Nat) : Nat → FieldType := match ci with
  | 0 => tyX0
  | 1 => tyX1
  | 2 => tyX2
  | 3 => tyX3
  | 4 => tyX4
  | 5 => tyX5
  | 6 => tyX6
  | 7 => tyX7
  | _ => tyX8
theorem n9 {ci : Nat} (h : ci < 9) : ci = 0 ∨ ci = 1 ∨ ci = 2 ∨ ci = 3 ∨ ci = 4 ∨ ci = 5 ∨ ci = 6 ∨ ci = 7 ∨ ci = 8 := by omega
theorem ck_at {ci : Nat} (h : ci < 9) : vwCl[ci]? = some (cC ci, cT ci, (fT ci).length) := by
  rcases n9 h with rfl | rfl | rfl | rfl | rfl | rfl | rfl | rfl | rfl <;> rfl
theorem ck_ty {ci : Nat} (h : ci < 9) : ∀ k, k < (fT ci).length → parseFieldDescriptor (cT ci k).2.2.1 = some (cY ci k) := by
  rcases n9 h with rfl | rfl | rfl | rfl | rfl | rfl | rfl | rfl | rfl
  · exact tyX0_ok
  · exact tyX1_ok
  · exact tyX2_ok
  · exact tyX3_ok
  · exact tyX4_ok
  · exact tyX5_ok
  · exact tyX6_ok
  · exact tyX7_ok
  · exact tyX8_ok
theorem ck_nm {ci : Nat} (h : ci < 9) : ∀ a, a < (fT ci).length → ∀ b, b < (fT ci).length → a ≠ b → (cT ci a).2.1 ≠ (cT ci b).2.1 := by
  rcases n9 h with rfl | rfl | rfl | rfl | rfl | rfl | rfl | rfl | rfl
  · exact nmX0
  · exact nmX1
  · exact nmX2
  · exact nmX3
  · exact nmX4
  · exact nmX5
  · exact nmX6
  · exact nmX7
  · exact nmX8
/-- the words of the fields' places stand in the tables -/
def ckw (ci : Nat) : Prop := ∀ c ∈ u_ws (cC ci) (cT ci) (fT ci).length, c ∈ gtbl
/-- a field's link: the code's class, the place in its pool, the class, the field -/
def FL (M : Mi) (idx ci k : Nat) : Prop := ci < 9 ∧ k < (fT ci).length ∧ ckw ci ∧ Cond.fieldLink M.1.cls idx (cT ci k).1 (cT ci k).2.1 (cT ci k).2.2.1 ∈ gtbl
theorem r_getI {E : Ev} {M : Mi} {d : Nat × Nat × Bool} {Q : Option Value → Wd → Prop} {k pc : Nat} {lv : List (Nat × Value)} {st : List Value} {w : Wd} {a idx ci f : Nat} (hl0 : FL M idx ci f) (ht : (fT ci).getD f 0 = 0) (hd : decode M.2.1 pc = .ok (.getfield idx, 3)) (ha : isO w a ci) (h : Runs E M d Q k (pc + 3) lv (.int (wI w a f) :: st) w) : Runs E M d Q k pc lv (.ref a :: st) w := by
  intro p ev s m args below meth c A H locs ls hf hw hl
  have e := ws_at (E := E) ha.1
  rw [cE_o ha.2] at e
  obtain ⟨hci, hk, hkw, hlk⟩ := hl0
  have hts := hf.2.2.2.2.2.2.2.1
  refine va_get (C := cC ci) (T := cT ci) (N := (fT ci).length) (ref := (cT ci f).1) (index := idx) (v := .int (wI w a f)) hf.1 hf.2.1 hts hkw hf.2.2.2.2.2.1 hf.2.2.2.2.2.2.2.2.1 hw.1 a e (ck_at hci) f hk (hts _ hlk) (fun _ h9 => h9) ?_ hd (h p ev s m args below meth c A H locs ls hf hw hl)
  rw [oV_at hk, fv, if_pos ht]
theorem r_getR {E : Ev} {M : Mi} {d : Nat × Nat × Bool} {Q : Option Value → Wd → Prop} {k pc : Nat} {lv : List (Nat × Value)} {st : List Value} {w : Wd} {a b idx ci f : Nat} (hl0 : FL M idx ci f) (ht : (fT ci).getD f 0 = 2) (hd : decode M.2.1 pc = .ok (.getfield idx, 3)) (ha : isO w a ci) (hb : wR w a f = some b) (h : Runs E M d Q k (pc + 3) lv (.ref b :: st) w) : Runs E M d Q k pc lv (.ref a :: st) w := by
  intro p ev s m args below meth c A H locs ls hf hw hl
  have e := ws_at (E := E) ha.1
  rw [cE_o ha.2] at e
  obtain ⟨hci, hk, hkw, hlk⟩ := hl0
  have hts := hf.2.2.2.2.2.2.2.1
  refine va_get (C := cC ci) (T := cT ci) (N := (fT ci).length) (ref := (cT ci f).1) (index := idx) (v := .ref (lo E b)) hf.1 hf.2.1 hts hkw hf.2.2.2.2.2.1 hf.2.2.2.2.2.2.2.2.1 hw.1 a e (ck_at hci) f hk (hts _ hlk) (fun _ h9 => h9) ?_ hd (h p ev s m args below meth c A H locs ls hf hw hl)
  rw [oV_at hk, fv, if_neg (by omega), hb]
  rfl
theorem fv_sIr {E : Ev} {w : Wd} {a : Nat} {g : Nat → Int32} {t j : Nat} (h : g j = wI w a j) : fv E (sIr w a g) a t j = fv E w a t j := by
  have e1 : wI (sIr w a g) a j = g j := by simp only [wI, sIr, ua_eq]
  have e2 : wR (sIr w a g) a j = wR w a j := rfl
  unfold fv
  rw [e1, e2, h]
theorem fv_sRr {E : Ev} {w : Wd} {a : Nat} {g : Nat → Option Nat} {t j : Nat} (h : g j = wR w a j) : fv E (sRr w a g) a t j = fv E w a t j := by
  have e1 : wR (sRr w a g) a j = g j := by simp only [wR, sRr, ua_eq]
  have e2 : wI (sRr w a g) a j = wI w a j := rfl
  unfold fv
  rw [e1, e2, h]
theorem oV_sI {E : Ev} {w : Wd} {a ci f : Nat} {x : Int32} (hk : f < (fT ci).length) (ht : (fT ci).getD f 0 = 0) : (oV E w ci a).set f (.int x) = oV E (sI w a f x) ci a := by
  refine oV_set hk ?_ (fun j _ hj => ?_)
  · have e1 : wI (sI w a f x) a f = x := by simp only [wI, sI, sIr, ua_eq, upd, if_pos]
    rw [fv, if_pos ht, e1]
  · exact fv_sIr (by simp only [upd, if_neg hj])
theorem oV_sR {E : Ev} {w : Wd} {a ci f : Nat} {x : Option Nat} (hk : f < (fT ci).length) (ht : (fT ci).getD f 0 = 2) : (oV E w ci a).set f (va_rf (x.map (lo E))) = oV E (sR w a f x) ci a := by
  refine oV_set hk ?_ (fun j _ hj => ?_)
  · have e1 : wR (sR w a f x) a f = x := by simp only [wR, sR, sRr, ua_eq, va_up, if_pos]
    rw [fv, if_neg (by omega), e1]
  · exact fv_sRr (by simp only [va_up, if_neg hj])
