theorem r_putI {E : Ev} {M : Mi} {d : Nat × Nat × Bool} {Q : Option Value → Wd → Prop} {k pc : Nat} {lv : List (Nat × Value)} {st : List Value} {w : Wd} {a idx ci f : Nat} {x : Int32} (hl0 : FL M idx ci f) (ht : (fT ci).getD f 0 = 0) (hfin : (cT ci f).2.2.2 = false) {ty : FieldType} (hty : parseFieldDescriptor (cT ci f).2.2.1 = some ty) (hn : narrow ty (.int x) = (.int x)) (hfit : fits ty (.int x) = true) (hd : decode M.2.1 pc = .ok (.putfield idx, 3)) (ha : isO w a ci) (h : Runs E M d Q k (pc + 3) lv st (sI w a f x)) : Runs E M d Q k pc lv (.int x :: .ref a :: st) w := by
  intro p ev s m args below meth c A H locs ls hf hw hl
  have e := ws_at (E := E) ha.1
  rw [cE_o ha.2] at e
  obtain ⟨hci, hk, hkw, hlk⟩ := hl0
  have hts := hf.2.2.2.2.2.2.2.1
  have hown := hf.2.2.2.2.2.1
  have hK := hf.2.2.2.2.2.2.2.2.1
  have hap := va_apart (own := M.1.cls) hts hkw (cY ci) (ck_ty hci) (ck_nm hci) hK (ck_at hci)
  obtain ⟨r, h1, cell, q1, q2, q3, q4⟩ := hw.1 a _ e
  have hr : r = (cC ci, cT ci, (fT ci).length) := Option.some.inj (h1.symm.trans (ck_at hci))
  subst hr
  obtain ⟨hS, hfc, kC, hkC, hkind⟩ := hK.1 ci _ (ck_at hci)
  obtain ⟨cf, kf, fi, fd, hi, hsl⟩ := hS f hk
  have hlay := hts _ (hkw _ (u_in_lay hk))
  unfold u_lay at hlay
  have hst := (u_facts hfc hkC (u_lays hts hkw hk) hi).1
  rw [if_neg (by rw [hfin]; decide)] at hlay
  have h6 := u_store hfc hkC hkind hlay hi hty hn hfit
  refine W.putK hf.1 hf.2.1 (f := fd) ⟨hown, hts _ hlk, ⟨_, _, _, hi⟩, hst⟩ (by rw [q2]; exact h6) q1 q3 (by rw [hsl]; exact k2_hasslot (q4 f hk)) rfl rfl hd fun H1 e1 e2 e3 => ?_
  rw [hsl] at e1
  refine h p ev s m args below meth c A H1 _ ls hf (hw.store ha.1 rfl e2 e3 ?_ (fun b hb => cE_sIr _ hb)) hl
  have hk2 : wK (sI w a f x) a = ci + 10 := ha.2
  rw [cE_o hk2, ← oV_sI hk ht]
  exact ⟨_, ck_at hci, t_OB.to (V := updV (vp_V (oV E w ci a)) f (.int x)) ⟨_, e1, q2, q3, t_set q4 hap hk _⟩ (fun j _ => vp_updV_set (by rw [oV_len]; exact hk) _ j)⟩
theorem r_putR {E : Ev} {M : Mi} {d : Nat × Nat × Bool} {Q : Option Value → Wd → Prop} {k pc : Nat} {lv : List (Nat × Value)} {st : List Value} {w : Wd} {a idx ci f : Nat} {b : Nat} (hl0 : FL M idx ci f) (ht : (fT ci).getD f 0 = 2) (hfin : (cT ci f).2.2.2 = false) {ty : FieldType} (hty : parseFieldDescriptor (cT ci f).2.2.1 = some ty) (hn : narrow ty (va_rf ((some b).map (lo E))) = (va_rf ((some b).map (lo E)))) (hfit : fits ty (va_rf ((some b).map (lo E))) = true) (hd : decode M.2.1 pc = .ok (.putfield idx, 3)) (ha : isO w a ci) (h : Runs E M d Q k (pc + 3) lv st (sR w a f (some b))) : Runs E M d Q k pc lv (.ref b :: .ref a :: st) w := by
  intro p ev s m args below meth c A H locs ls hf hw hl
  have e := ws_at (E := E) ha.1
  rw [cE_o ha.2] at e
  obtain ⟨hci, hk, hkw, hlk⟩ := hl0
  have hts := hf.2.2.2.2.2.2.2.1
  have hown := hf.2.2.2.2.2.1
  have hK := hf.2.2.2.2.2.2.2.2.1
  have hap := va_apart (own := M.1.cls) hts hkw (cY ci) (ck_ty hci) (ck_nm hci) hK (ck_at hci)
  obtain ⟨r, h1, cell, q1, q2, q3, q4⟩ := hw.1 a _ e
  have hr : r = (cC ci, cT ci, (fT ci).length) := Option.some.inj (h1.symm.trans (ck_at hci))
  subst hr
  obtain ⟨hS, hfc, kC, hkC, hkind⟩ := hK.1 ci _ (ck_at hci)
  obtain ⟨cf, kf, fi, fd, hi, hsl⟩ := hS f hk
  have hlay := hts _ (hkw _ (u_in_lay hk))
  unfold u_lay at hlay
  have hst := (u_facts hfc hkC (u_lays hts hkw hk) hi).1
  rw [if_neg (by rw [hfin]; decide)] at hlay
  have h6 := u_store hfc hkC hkind hlay hi hty hn hfit
  refine W.putK hf.1 hf.2.1 (f := fd) ⟨hown, hts _ hlk, ⟨_, _, _, hi⟩, hst⟩ (by rw [q2]; exact h6) q1 q3 (by rw [hsl]; exact k2_hasslot (q4 f hk)) rfl rfl hd fun H1 e1 e2 e3 => ?_
  rw [hsl] at e1
  refine h p ev s m args below meth c A H1 _ ls hf (hw.store ha.1 rfl e2 e3 ?_ (fun b hb => cE_sRr _ hb)) hl
  have hk2 : wK (sR w a f (some b)) a = ci + 10 := ha.2
  rw [cE_o hk2, ← oV_sR hk ht]
  exact ⟨_, ck_at hci, t_OB.to (V := updV (vp_V (oV E w ci a)) f (va_rf ((some b).map (lo E)))) ⟨_, e1, q2, q3, t_set q4 hap hk _⟩ (fun j _ => vp_updV_set (by rw [oV_len]; exact hk) _ j)⟩
theorem r_putN {E : Ev} {M : Mi} {d : Nat × Nat × Bool} {Q : Option Value → Wd → Prop} {k pc : Nat} {lv : List (Nat × Value)} {st : List Value} {w : Wd} {a idx ci f : Nat} (hl0 : FL M idx ci f) (ht : (fT ci).getD f 0 = 2) (hfin : (cT ci f).2.2.2 = false) {ty : FieldType} (hty : parseFieldDescriptor (cT ci f).2.2.1 = some ty) (hn : narrow ty (va_rf ((none : Option Nat).map (lo E))) = (va_rf ((none : Option Nat).map (lo E)))) (hfit : fits ty (va_rf ((none : Option Nat).map (lo E))) = true) (hd : decode M.2.1 pc = .ok (.putfield idx, 3)) (ha : isO w a ci) (h : Runs E M d Q k (pc + 3) lv st (sR w a f none)) : Runs E M d Q k pc lv (.null :: .ref a :: st) w := by
  intro p ev s m args below meth c A H locs ls hf hw hl
  have e := ws_at (E := E) ha.1
  rw [cE_o ha.2] at e
  obtain ⟨hci, hk, hkw, hlk⟩ := hl0
  have hts := hf.2.2.2.2.2.2.2.1
  have hown := hf.2.2.2.2.2.1
  have hK := hf.2.2.2.2.2.2.2.2.1
  have hap := va_apart (own := M.1.cls) hts hkw (cY ci) (ck_ty hci) (ck_nm hci) hK (ck_at hci)
  obtain ⟨r, h1, cell, q1, q2, q3, q4⟩ := hw.1 a _ e
  have hr : r = (cC ci, cT ci, (fT ci).length) := Option.some.inj (h1.symm.trans (ck_at hci))
  subst hr
  obtain ⟨hS, hfc, kC, hkC, hkind⟩ := hK.1 ci _ (ck_at hci)
  obtain ⟨cf, kf, fi, fd, hi, hsl⟩ := hS f hk
  have hlay := hts _ (hkw _ (u_in_lay hk))
  unfold u_lay at hlay
  have hst := (u_facts hfc hkC (u_lays hts hkw hk) hi).1
  rw [if_neg (by rw [hfin]; decide)] at hlay
  have h6 := u_store hfc hkC hkind hlay hi hty hn hfit
  refine W.putK hf.1 hf.2.1 (f := fd) ⟨hown, hts _ hlk, ⟨_, _, _, hi⟩, hst⟩ (by rw [q2]; exact h6) q1 q3 (by rw [hsl]; exact k2_hasslot (q4 f hk)) rfl rfl hd fun H1 e1 e2 e3 => ?_
  rw [hsl] at e1
  refine h p ev s m args below meth c A H1 _ ls hf (hw.store ha.1 rfl e2 e3 ?_ (fun b hb => cE_sRr _ hb)) hl
  have hk2 : wK (sR w a f none) a = ci + 10 := ha.2
  rw [cE_o hk2, ← oV_sR hk ht]
  exact ⟨_, ck_at hci, t_OB.to (V := updV (vp_V (oV E w ci a)) f (va_rf ((none : Option Nat).map (lo E)))) ⟨_, e1, q2, q3, t_set q4 hap hk _⟩ (fun j _ => vp_updV_set (by rw [oV_len]; exact hk) _ j)⟩
theorem r_putF {E : Ev} {M : Mi} {d : Nat × Nat × Bool} {Q : Option Value → Wd → Prop} {k pc : Nat} {lv : List (Nat × Value)} {st : List Value} {w : Wd} {a idx ci f : Nat} {b : Nat} (hl0 : FL M idx ci f) (ht : (fT ci).getD f 0 = 2) (hfin : (cT ci f).2.2.2 = true) (hinit : M.1.name = "<init>") (hdecl : (cT ci f).1 = M.1.cls) {ty : FieldType} (hty : parseFieldDescriptor (cT ci f).2.2.1 = some ty) (hn : narrow ty (va_rf ((some b).map (lo E))) = (va_rf ((some b).map (lo E)))) (hfit : fits ty (va_rf ((some b).map (lo E))) = true) (hd : decode M.2.1 pc = .ok (.putfield idx, 3)) (ha : isO w a ci) (h : Runs E M d Q k (pc + 3) lv st (sR w a f (some b))) : Runs E M d Q k pc lv (.ref b :: .ref a :: st) w := by
  intro p ev s m args below meth c A H locs ls hf hw hl
  have e := ws_at (E := E) ha.1
  rw [cE_o ha.2] at e
  obtain ⟨hci, hk, hkw, hlk⟩ := hl0
  have hts := hf.2.2.2.2.2.2.2.1
  have hown := hf.2.2.2.2.2.1
  have hK := hf.2.2.2.2.2.2.2.2.1
  have hap := va_apart (own := M.1.cls) hts hkw (cY ci) (ck_ty hci) (ck_nm hci) hK (ck_at hci)
  obtain ⟨r, h1, cell, q1, q2, q3, q4⟩ := hw.1 a _ e
  have hr : r = (cC ci, cT ci, (fT ci).length) := Option.some.inj (h1.symm.trans (ck_at hci))
  subst hr
  obtain ⟨hS, hfc, kC, hkC, hkind⟩ := hK.1 ci _ (ck_at hci)
  obtain ⟨cf, kf, fi, fd, hi, hsl⟩ := hS f hk
  have hlay := hts _ (hkw _ (u_in_lay hk))
  unfold u_lay at hlay
  have hst := (u_facts hfc hkC (u_lays hts hkw hk) hi).1
  rw [if_pos hfin] at hlay
  have hcf : m.cls = cf := by
    obtain ⟨_, _, c', _, _, _, -, -, hf', -, -, -, hown2, -⟩ := Cond.laysFinal_spec hlay
    have e1 : c' = cf := by have := hi.symm.trans hf'; simp at this; exact this.1.symm
    rw [hdecl] at hown2
    rw [← e1]; exact Option.some.inj (hown.symm.trans hown2)
  have h6 := u_fits hfc hkC hkind (Or.inr hlay) hi hty hn hfit
  refine W.putFinK hf.1 hf.2.1 hown (hts _ hlk) hi hst hcf (hf.2.2.2.2.2.2.1.trans hinit) (by rw [q2]; exact h6) q1 q3 (by rw [hsl]; exact k2_hasslot (q4 f hk)) rfl rfl hd fun H1 e1 e2 e3 => ?_
  rw [hsl] at e1
  refine h p ev s m args below meth c A H1 _ ls hf (hw.store ha.1 rfl e2 e3 ?_ (fun b hb => cE_sRr _ hb)) hl
  have hk2 : wK (sR w a f (some b)) a = ci + 10 := ha.2
  rw [cE_o hk2, ← oV_sR hk ht]
  exact ⟨_, ck_at hci, t_OB.to (V := updV (vp_V (oV E w ci a)) f (va_rf ((some b).map (lo E)))) ⟨_, e1, q2, q3, t_set q4 hap hk _⟩ (fun j _ => vp_updV_set (by rw [oV_len]; exact hk) _ j)⟩
theorem va_S.same {A : Nat → Prop} {H0 H : Heap} {locs : List Loc} (h : va_S A H0 H locs) : ∀ a : Nat, a < H0.size → ¬ A a → H[a]? = H0[a]? := h.2.1
theorem r_gets {E : Ev} {M : Mi} {d : Nat × Nat × Bool} {Q : Option Value → Wd → Prop} {k pc : Nat} {lv : List (Nat × Value)} {st : List Value} {w : Wd} {idx : Nat} (i : Nat) (hi : i < 5) (hlk : Cond.fieldLink M.1.cls idx (saC i) (saN i) "[I" ∈ gtbl) (hd : decode M.2.1 pc = .ok (.getstatic idx, 3)) (h : Runs E M d Q k (pc + 3) lv (.ref (1000 + i) :: st) w) : Runs E M d Q k pc lv st w := by
  intro p ev s m args below meth c A H locs ls hf hw hl
  exact va_gets hf.1 hf.2.1 (hf.2.2.2.2.2.2.2.2.2.1.1 i hi).1 hw.2.2.1 hf.2.2.2.2.2.1 (hf.2.2.2.2.2.2.2.1 _ hlk) (fun _ h9 => h9) hd (h p ev s m args below meth c A H locs ls hf hw hl)
theorem r_getsN {E : Ev} {M : Mi} {d : Nat × Nat × Bool} {Q : Option Value → Wd → Prop} {k pc : Nat} {lv : List (Nat × Value)} {st : List Value} {w : Wd} {idx : Nat} (i : Nat) (hi : i < 5) (hc : saC i = RX7) (hlk : (M.1.cls, idx, saN i) ∈ nwF) (hd : decode M.2.1 pc = .ok (.getstatic idx, 3)) (h : Runs E M d Q k (pc + 3) lv (.ref (1000 + i) :: st) w) : Runs E M d Q k pc lv st w := by
  intro p ev s m args below meth c A H locs ls hf hw hl
  have hST := hf.2.2.2.2.2.2.2.2.2.1
  have hZ := (hST.1 i hi).1
  rw [hc] at hZ
  exact va_getsN hf.1 hf.2.1 hZ hw.2.2.1 hf.2.2.2.2.2.1 (va_Nw.use rfl (hST.2.2.2.2.2.2.1 _ hlk)) (fun _ h9 => h9) hd (h p ev s m args below meth c A H locs ls hf hw hl)
theorem r_siaload {E : Ev} {M : Mi} {d : Nat × Nat × Bool} {Q : Option Value → Wd → Prop} {k pc : Nat} {lv : List (Nat × Value)} {st : List Value} {w : Wd} (i : Nat) (hi : i < 5) {j : Int32} (hd : decode M.2.1 pc = .ok (.iaload, 1)) (hj : inb j (saV i).length) (h : Runs E M d Q k (pc + 1) lv (.int ((saV i).getD j.toNatClampNeg 0) :: st) w) : Runs E M d Q k pc lv (.int j :: .ref (1000 + i) :: st) w := by
  intro p ev s m args below meth c A H locs ls hf hw hl
  exact va_ti hf.1 hf.2.1 (hf.2.2.2.2.2.2.2.2.2.1.1 i hi).2 hw.2.2.1 hj rfl hd (h p ev s m args below meth c A H locs ls hf hw hl)
theorem r_getsC {E : Ev} {M : Mi} {d : Nat × Nat × Bool} {Q : Option Value → Wd → Prop} {k pc : Nat} {lv : List (Nat × Value)} {st : List Value} {w : Wd} {idx : Nat} (hlk : Cond.fieldLink M.1.cls idx "java/lang/String" "COMPACT_STRINGS" "Z" ∈ gtbl) (hd : decode M.2.1 pc = .ok (.getstatic idx, 3)) (h : Runs E M d Q k (pc + 3) lv (.int 1 :: st) w) : Runs E M d Q k pc lv st w := by
  intro p ev s m args below meth c A H locs ls hf hw hl
  exact va_gets hf.1 hf.2.1 hf.2.2.2.2.2.2.2.2.2.1.2.1 hw.2.2.1 hf.2.2.2.2.2.1 (hf.2.2.2.2.2.2.2.1 _ hlk) (fun _ h9 => h9) hd (h p ev s m args below meth c A H locs ls hf hw hl)
theorem r_getsF {E : Ev} {M : Mi} {d : Nat × Nat × Bool} {Q : Option Value → Wd → Prop} {k pc : Nat} {lv : List (Nat × Value)} {st : List Value} {w : Wd} {idx : Nat} (hlk : Cond.fieldLink M.1.cls idx "jdk/internal/util/Preconditions" "SIOOBE_FORMATTER" "Ljava/util/function/BiFunction;" ∈ gtbl) (hd : decode M.2.1 pc = .ok (.getstatic idx, 3)) (h : ∀ v : Value, v = .null ∨ v = .ref 1300 → Runs E M d Q k (pc + 3) lv (v :: st) w) : Runs E M d Q k pc lv st w := by
  intro p ev s m args below meth c A H locs ls hf hw hl
  rcases hf.2.2.2.2.2.2.2.2.2.1.2.2.1 with hZ | hZ
  · exact va_gets hf.1 hf.2.1 hZ hw.2.2.1 hf.2.2.2.2.2.1 (hf.2.2.2.2.2.2.2.1 _ hlk) (fun _ h9 => h9) hd (h .null (Or.inl rfl) p ev s m args below meth c A H locs ls hf hw hl)
  · exact va_gets hf.1 hf.2.1 hZ hw.2.2.1 hf.2.2.2.2.2.1 (hf.2.2.2.2.2.2.2.1 _ hlk) (fun _ h9 => h9) hd (h (.ref 1300) (Or.inr rfl) p ev s m args below meth c A H locs ls hf hw hl)
theorem r_ldcS {E : Ev} {M : Mi} {d : Nat × Nat × Bool} {Q : Option Value → Wd → Prop} {k pc : Nat} {lv : List (Nat × Value)} {st : List Value} {w : Wd} {idx : Nat} (i : Nat) (hi : i < 16) (ho : stO i = M.1.cls) (hk : stK i = idx) (hd : decode M.2.1 pc = .ok (.ldc idx, 2)) (h : Runs E M d Q k (pc + 2) lv (.ref (1100 + i) :: st) w) : Runs E M d Q k pc lv st w := by
  intro p ev s m args below meth c A H locs ls hf hw hl
  have hR := hf.2.2.2.2.2.2.2.2.2.1.2.2.2.2.1 i hi
  rw [ho, hk] at hR
  exact va_ldcS hf.1 hf.2.1 hf.2.2.2.2.2.1 hR hd (h p ev s m args below meth c A H locs ls hf hw hl)
theorem r_strV {E : Ev} {M : Mi} {d : Nat × Nat × Bool} {Q : Option Value → Wd → Prop} {k pc : Nat} {lv : List (Nat × Value)} {st : List Value} {w : Wd} {idx : Nat} (i : Nat) (hi : i < 16) (hlk : Cond.fieldLink M.1.cls idx "java/lang/String" "value" "[B" ∈ gtbl) (hd : decode M.2.1 pc = .ok (.getfield idx, 3)) (h : Runs E M d Q k (pc + 3) lv (.ref (1200 + i) :: st) w) : Runs E M d Q k pc lv (.ref (1100 + i) :: st) w := by
  intro p ev s m args below meth c A H locs ls hf hw hl
  exact vk_getf hf.1 hf.2.1 ((hf.2.2.2.2.2.2.2.2.2.1.2.2.2.1 i hi).1 0 Nat.zero_lt_one).2.2.1 hw.2.2.1 hf.2.2.2.2.2.1 (hf.2.2.2.2.2.2.2.1 _ hlk) (fun _ h9 => h9) hd (h p ev s m args below meth c A H locs ls hf hw hl)
theorem r_strC {E : Ev} {M : Mi} {d : Nat × Nat × Bool} {Q : Option Value → Wd → Prop} {k pc : Nat} {lv : List (Nat × Value)} {st : List Value} {w : Wd} {idx : Nat} (i : Nat) (hi : i < 16) (hlk : Cond.fieldLink M.1.cls idx "java/lang/String" "coder" "B" ∈ gtbl) (hd : decode M.2.1 pc = .ok (.getfield idx, 3)) (h : Runs E M d Q k (pc + 3) lv (.int 0 :: st) w) : Runs E M d Q k pc lv (.ref (1100 + i) :: st) w := by
  intro p ev s m args below meth c A H locs ls hf hw hl
  exact vk_getf hf.1 hf.2.1 ((hf.2.2.2.2.2.2.2.2.2.1.2.2.2.1 i hi).1 0 Nat.zero_lt_one).2.1 hw.2.2.1 hf.2.2.2.2.2.1 (hf.2.2.2.2.2.2.2.1 _ hlk) (fun _ h9 => h9) hd (h p ev s m args below meth c A H locs ls hf hw hl)
theorem st_len {i : Nat} (hi : i < 16) : stLs.getD i 0 = (stB i).length := by
  unfold stLs
  rw [List.getD_eq_getElem?_getD, List.getElem?_map, List.getElem?_range hi]
  rfl
theorem st_byt {i : Nat} (hi : i < 16) : stBs.getD i [] = stB i := by
  unfold stBs
  rw [List.getD_eq_getElem?_getD, List.getElem?_map, List.getElem?_range hi]
  rfl
theorem r_strL {E : Ev} {M : Mi} {d : Nat × Nat × Bool} {Q : Option Value → Wd → Prop} {k pc : Nat} {lv : List (Nat × Value)} {st : List Value} {w : Wd} (i : Nat) (hi : i < 16) (hd : decode M.2.1 pc = .ok (.arraylength, 1)) (h : Runs E M d Q k (pc + 1) lv (.int (Int32.ofNat (stB i).length) :: st) w) : Runs E M d Q k pc lv (.ref (1200 + i) :: st) w := by
  intro p ev s m args below meth c A H locs ls hf hw hl
  have hT : va_T .byte (lo E (1200 + i)) (stLs.getD i 0) (fun j => .int ((stBs.getD i []).getD j 0)) A s s.heap := ((hf.2.2.2.2.2.2.2.2.2.1.2.2.2.1 i hi).1 0 Nat.zero_lt_one).2.2.2
  rw [st_len hi] at hT
  exact va_tlen hf.1 hf.2.1 hT hw.2.2.1 rfl hd (h p ev s m args below meth c A H locs ls hf hw hl)
theorem r_strB {E : Ev} {M : Mi} {d : Nat × Nat × Bool} {Q : Option Value → Wd → Prop} {k pc : Nat} {lv : List (Nat × Value)} {st : List Value} {w : Wd} (i : Nat) (hi : i < 16) {j : Int32} (hd : decode M.2.1 pc = .ok (.baload, 1)) (hj : inb j (stB i).length) (h : Runs E M d Q k (pc + 1) lv (.int ((stB i).getD j.toNatClampNeg 0) :: st) w) : Runs E M d Q k pc lv (.int j :: .ref (1200 + i) :: st) w := by
  intro p ev s m args below meth c A H locs ls hf hw hl
  have hT : va_T .byte (lo E (1200 + i)) (stLs.getD i 0) (fun j => .int ((stBs.getD i []).getD j 0)) A s s.heap := ((hf.2.2.2.2.2.2.2.2.2.1.2.2.2.1 i hi).1 0 Nat.zero_lt_one).2.2.2
  rw [st_len hi, st_byt hi] at hT
  exact va_tb hf.1 hf.2.1 hT hw.2.2.1 hj rfl hd (h p ev s m args below meth c A H locs ls hf hw hl)
theorem r_ldc {E : Ev} {M : Mi} {d : Nat × Nat × Bool} {Q : Option Value → Wd → Prop} {k pc : Nat} {lv : List (Nat × Value)} {st : List Value} {w : Wd} {idx : Nat} {v : Int32} (hlk : Cond.constant M.1.cls idx v ∈ gtbl) (hd : decode M.2.1 pc = .ok (.ldc idx, 2)) (h : Runs E M d Q k (pc + 2) lv (.int v :: st) w) : Runs E M d Q k pc lv st w := by
  intro p ev s m args below meth c A H locs ls hf hw hl
  exact lv_ldc hf.1 hf.2.1 hf.2.2.2.2.2.1 (hf.2.2.2.2.2.2.2.1 _ hlk) hd (h p ev s m args below meth c A H locs ls hf hw hl)
theorem r_ldcw {E : Ev} {M : Mi} {d : Nat × Nat × Bool} {Q : Option Value → Wd → Prop} {k pc : Nat} {lv : List (Nat × Value)} {st : List Value} {w : Wd} {idx : Nat} {v : Int32} (hlk : Cond.constant M.1.cls idx v ∈ gtbl) (hd : decode M.2.1 pc = .ok (.ldc_w idx, 3)) (h : Runs E M d Q k (pc + 3) lv (.int v :: st) w) : Runs E M d Q k pc lv st w := by
  intro p ev s m args below meth c A H locs ls hf hw hl
  exact lv_ldcw hf.1 hf.2.1 hf.2.2.2.2.2.1 (hf.2.2.2.2.2.2.2.1 _ hlk) hd (h p ev s m args below meth c A H locs ls hf hw hl)
theorem r_copyI {E : Ev} {M : Mi} {d : Nat × Nat × Bool} {Q : Option Value → Wd → Prop} {k pc : Nat} {lv : List (Nat × Value)} {st : List Value} {w : Wd} {a b idx : Nat} {sp dp n : Int32} (hg : d.2.2 = false) (hd1 : 6 ≤ d.1) (hst : (st.map fun v => v.category).sum ≤ 8) (hlk : Cond.methodLink M.1.cls idx arraycopyName ∈ gtbl) (hnat : Cond.native arraycopyName ∈ gtbl) (hsta : Cond.static arraycopyName ∈ gtbl) (hini : Cond.initialized "java/lang/System" ∈ gtbl) (hd : decode M.2.1 pc = .ok (.invokestatic idx, 3)) (ha : isA w a 0) (hb : isA w b 0) (h1 : ¬ sp < 0) (h2 : ¬ dp < 0) (h3 : ¬ n < 0) (h4 : sp.toNatClampNeg + n.toNatClampNeg ≤ wn w a) (h5 : dp.toNatClampNeg + n.toNatClampNeg ≤ wn w b) (h : Runs E M d Q k (pc + 3) lv st (cpI w a b sp.toNatClampNeg dp.toNatClampNeg n.toNatClampNeg)) : Runs E M d Q k pc lv (.int n :: .int dp :: .ref b :: .int sp :: .ref a :: st) w := by
  intro p ev s m args below meth c A H locs ls hf hw hl
  have ea := ws_at (E := E) ha.1
  rw [cE_0 ha.2] at ea
  have eb := ws_at (E := E) hb.1
  rw [cE_0 hb.2] at eb
  have hts := hf.2.2.2.2.2.2.2.1
  refine va_copyi hf.1 hf.2.1 (by rw [hf.2.2.1]; exact hl.1.symm) hf.2.2.2.2.2.1 (hts _ hlk) (hts _ hnat) (hts _ hsta) (hts _ hini) hf.2.2.2.2.2.2.2.2.1 hw.1 hw.2.1 hw.2.2.1 a b 0 0 ea eb (tys_0 E) (tys_0 E) rfl h1 h2 h3 h4 h5 (fun i hi => rfl) (by show 1 ≤ d.1; omega) ?_ hd (fun H1 locs1 hP hD hS => ?_)
  · rw [List.map_map]
    have e1 : ((fun v => v.category) ∘ mv E) = fun v => v.category := by funext v; exact mv_cat E v
    rw [e1]
    have e2 : nativeFrameWords "java/lang/System" "arraycopy" 5 + 11 ≤ 160 := by decide
    show _ ≤ 32 * d.1
    omega
  · have es : (ws E w).set b (lo E b, .inl (E.2.2.1 0, wn w b, .inl (va_cpy (wI w a) (wI w b) sp.toNatClampNeg dp.toNatClampNeg n.toNatClampNeg))) = ws E (cpI w a b sp.toNatClampNeg dp.toNatClampNeg n.toNatClampNeg) := by
      refine ws_set hb.1 rfl ?_ (fun j hj => cE_sIr _ hj)
      have hk : wK (cpI w a b sp.toNatClampNeg dp.toNatClampNeg n.toNatClampNeg) b = 0 := hb.2
      rw [cE_0 hk]
      simp only [wn, wI, cpI, sIr, ua_eq]
    rw [es] at hP hD
    exact h p ev s m args below meth c A H1 locs1 ls hf ⟨hP, hD, hS, fun q => by rw [hg] at q; cases q⟩ hl
theorem r_copyL {E : Ev} {M : Mi} {d : Nat × Nat × Bool} {Q : Option Value → Wd → Prop} {k pc : Nat} {lv : List (Nat × Value)} {st : List Value} {w : Wd} {a b idx : Nat} {sp dp n : Int32} (hg : d.2.2 = false) (hd1 : 6 ≤ d.1) (hst : (st.map fun v => v.category).sum ≤ 8) (hlk : Cond.methodLink M.1.cls idx arraycopyName ∈ gtbl) (hnat : Cond.native arraycopyName ∈ gtbl) (hsta : Cond.static arraycopyName ∈ gtbl) (hini : Cond.initialized "java/lang/System" ∈ gtbl) (hd : decode M.2.1 pc = .ok (.invokestatic idx, 3)) (ha : isA w a 1) (hb : isA w b 1) (h1 : ¬ sp < 0) (h2 : ¬ dp < 0) (h3 : ¬ n < 0) (h4 : sp.toNatClampNeg + n.toNatClampNeg ≤ wn w a) (h5 : dp.toNatClampNeg + n.toNatClampNeg ≤ wn w b) (h : Runs E M d Q k (pc + 3) lv st (cpL w a b sp.toNatClampNeg dp.toNatClampNeg n.toNatClampNeg)) : Runs E M d Q k pc lv (.int n :: .int dp :: .ref b :: .int sp :: .ref a :: st) w := by
  intro p ev s m args below meth c A H locs ls hf hw hl
  have ea := ws_at (E := E) ha.1
  rw [cE_1 ha.2] at ea
  have eb := ws_at (E := E) hb.1
  rw [cE_1 hb.2] at eb
  have hts := hf.2.2.2.2.2.2.2.1
  refine va_copyl hf.1 hf.2.1 (by rw [hf.2.2.1]; exact hl.1.symm) hf.2.2.2.2.2.1 (hts _ hlk) (hts _ hnat) (hts _ hsta) (hts _ hini) hf.2.2.2.2.2.2.2.2.1 hw.1 hw.2.1 hw.2.2.1 a b 1 1 ea eb (tys_1 E) (tys_1 E) rfl h1 h2 h3 h4 h5 (fun i hi => rfl) (by show 1 ≤ d.1; omega) ?_ hd (fun H1 locs1 hP hD hS => ?_)
  · rw [List.map_map]
    have e1 : ((fun v => v.category) ∘ mv E) = fun v => v.category := by funext v; exact mv_cat E v
    rw [e1]
    have e2 : nativeFrameWords "java/lang/System" "arraycopy" 5 + 11 ≤ 160 := by decide
    show _ ≤ 32 * d.1
    omega
  · have es : (ws E w).set b (lo E b, .inl (E.2.2.1 1, wn w b, .inr (.inl (va_cpy (wL w a) (wL w b) sp.toNatClampNeg dp.toNatClampNeg n.toNatClampNeg)))) = ws E (cpL w a b sp.toNatClampNeg dp.toNatClampNeg n.toNatClampNeg) := by
      refine ws_set hb.1 rfl ?_ (fun j hj => cE_sLr _ hj)
      have hk : wK (cpL w a b sp.toNatClampNeg dp.toNatClampNeg n.toNatClampNeg) b = 1 := hb.2
      rw [cE_1 hk]
      simp only [wn, wL, cpL, sLr, ua_eq]
    rw [es] at hP hD
    exact h p ev s m args below meth c A H1 locs1 ls hf ⟨hP, hD, hS, fun q => by rw [hg] at q; cases q⟩ hl
