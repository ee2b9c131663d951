/-! calls -/
theorem PC.blind {E : Ev} {g : Bool} {av : List Value} {w : Wd} {sz : Nat} : FrameBlind (PC E g av w sz) := by
  intro a U fr mk q
  obtain ⟨q0, q1, qP, qK, qD, qS, qg⟩ := q
  exact ⟨q0, q1, qP, va_K.moved (u := U) (U := U.calling fr mk a) (Vm.Alike.refl U.vm) qK, qD, ST.same (s := U) (U := U.calling fr mk a) rfl qS, qg⟩
theorem AA_in {E : Ev} {A : Nat → Prop} {w : Wd} {H0 H : Heap} {g : Bool} {locs : List Loc} (hw : Wo E A H0 w g H locs) (hA : ∀ q : Nat, H0.size ≤ q → A q) : ∀ q, AA E w H.size q → A q := by
  intro q h
  rcases h with ⟨i, e, h⟩ | h
  · exact hw.2.1.2 i _ h
  · exact hA q (Nat.le_trans hw.2.2.1.1 h)
theorem PC.mk {E : Ev} {M : Mi} {p : Program} {s : State} {m : MethodId} {args : Array Value} {meth : Method} {c : Code} {A : Nat → Prop} {w : Wd} {g : Bool} {H : Heap} {locs : List Loc} (hf : Fx E M p s m args meth c A) (hw : Wo E A s.heap w g H locs) (av : List Value) :
    ∀ U : State, U.heap = H → s.WarmedH U.vm → PC E g av w H.size (av.map (mv E)).toArray U := by
  intro U hU hW
  refine ⟨rfl, by rw [hU], by rw [hU]; exact hw.1, va_K.moved hW.alike hf.2.2.2.2.2.2.2.2.1, hw.2.1.weaken (fun _ _ _ _ => trivial), ?_, hw.2.2.2⟩
  rw [hU]
  exact ((hf.2.2.2.2.2.2.2.2.2.1.warm hW).kept hw.2.2.1.same).narrow (AA_in hw hf.2.2.2.2.2.2.2.2.2.2)
theorem Runs.call {E : Ev} {p : Program} {e : Env} {R : Room} {s : State} {m : MethodId} {args : Array Value} {below : List Frame} {meth : Method} {c : Code} {A : Nat → Prop} {w : Wd} {g : Bool} {H : Heap} {locs : List Loc} {cells slots mc ms pc : Nat} {ls : Array Slot} {st0 rest : List Value} {Q1 : Option Value → Wd → Prop} {a : Array Value} {Z : State → Prop}
    (hA : ∀ q : Nat, s.heap.size ≤ q → A q) (hw : Wo E A s.heap w g H locs) (hr : va_Run p E.1 e R s m args below meth c H locs cells slots mc ms (F0 m pc ls st0) rest (QC E (AA E w H.size) g Q1 a) (AA E w H.size))
    (kk : ∀ (r : Option Value) (w' : Wd) (H1 : Heap) (locs1 : List Loc), Q1 r w' → Wo E A s.heap w' g H1 locs1 → W p E.1 e R s m args below meth c H1 locs1 (cells + mc) (slots + ms) Z (F0 m (pc + 3) ls ((r.map (mv E)).toList ++ rest))) : W p E.1 e R s m args below meth c H locs cells slots Z (F0 m pc ls st0) := by
  intro T hT X
  obtain ⟨v, st₀, t, T', L, h0, X', hL, e1, e2, ⟨⟨r, w', hv, hq, hP, -, hD, hg⟩, hz, hk⟩, stp⟩ := hr T hT X
  cases hv
  rw [h0] at hz hk
  have hin := AA_in hw hA
  obtain ⟨t2, a1, b1⟩ := kk r w' T'.heap (locs ++ L) hq ⟨by rw [e1]; exact hP, hD.weaken (fun _ q _ h => hin q.1 h), ⟨Nat.le_trans hw.2.2.1.1 (by rw [e1]; exact hz), fun q h1 h2 => by rw [e1, hk q (Nat.lt_of_lt_of_le h1 hw.2.2.1.1) (fun z => h2 (hin q z))]; exact hw.2.2.1.2.1 q h1 h2, fun q hq => by
      rcases List.mem_append.mp hq with h | h
      · exact hw.2.2.1.2.2 q h
      · exact hin _ (hL q h)⟩, fun q => by rw [e1]; exact hg q⟩ T' rfl X'
  exact ⟨t2, stp t2 a1, b1⟩
theorem gt_good {y : MethodName} {bytes : ByteArray} {n : Nat} {ret : Option FieldType} (h : Cond.code y bytes n ret ∈ gtbl) : GoodIn gtbl (.code y bytes n ret :: gtbl) := by
  intro w hw
  have hm : w ∈ gtbl := by
    rcases List.mem_cons.mp hw with rfl | h1
    · exact h
    · exact h1
  exact ⟨hm, good_of_word (List.mem_filter.mp hm).2⟩
/-- what the tables say of a method with n parameters -/
def MD (M : Mi) (n : Nat) : Prop := Cond.initialized M.1.cls ∈ gtbl ∧ Cond.code M.1 M.2.1 M.2.2.1 M.2.2.2 ∈ gtbl ∧ (M.1.cls ≠ "java/lang/invoke/MethodHandle" ∧ M.1.cls ≠ "java/lang/invoke/VarHandle" ∧ (parseMethodDescriptor M.1.desc).map (fun q => q.parameters.length) = some n) ∧ M.2.2.1 ≤ 13
def MDv (M : Mi) (n : Nat) : Prop := MD M n ∧ Cond.instanceMethod M.1 ∈ gtbl ∧ Cond.selects M.1.cls M.1 M.1 ∈ gtbl
def MDs (M : Mi) (n : Nat) : Prop := MD M n ∧ Cond.static M.1 ∈ gtbl
def MDi (M : Mi) (n : Nat) : Prop := MD M n ∧ Cond.instanceMethod M.1 ∈ gtbl ∧ M.1.name = "<init>" ∧ M.2.2.2 = none
theorem st_cat (E : Ev) (st : List Value) : ((st.map (mv E)).map fun v => v.category) = st.map fun v => v.category := by
  rw [List.map_map]
  congr 1
  funext v
  exact mv_cat E v
theorem rev_map (E : Ev) (As : List Value) (b : Nat) (st : List Value) : (As.reverse ++ .ref b :: st).map (mv E) = (As.map (mv E)).reverse ++ .ref (lo E b) :: st.map (mv E) := by
  rw [List.map_append, List.map_reverse, List.map_cons]
  rfl
theorem kmul (k mc : Nat) : k * 1280 + mc * 1280 = (k + mc) * 1280 := (Nat.add_mul k mc 1280).symm
theorem runs_call {E : Ev} {M : Mi} {d : Nat × Nat × Bool} {Q : Option Value → Wd → Prop} {k mc pc : Nat} {lv : List (Nat × Value)} {st : List Value} {Q1 : Option Value → Wd → Prop} (h : ∀ r w', Q1 r w' → Runs E M d Q (k + mc) (pc + 3) lv (r.toList ++ st) w')
    {p : Program} {e : Env} {s : State} {m : MethodId} {args : Array Value} {below : List Frame} {meth : Method} {c : Code} {A : Nat → Prop} {ls : Array Slot} (hf : Fx E M p s m args meth c A) (hl : lv_has ls M.2.2.1 (mvl E lv)) :
    ∀ (r : Option Value) (w' : Wd) (H1 : Heap) (locs1 : List Loc), Q1 r w' → Wo E A s.heap w' d.2.2 H1 locs1 → W p E.1 e (rmOf d) s m args below meth c H1 locs1 (k + mc) (k * 1280 + mc * 1280) (MQ below (QC E A d.2.2 Q) args s d.2.1 (d.2.1 * 1280) A) (F0 m (pc + 3) ls ((r.map (mv E)).toList ++ st.map (mv E))) := by
  intro r w' H1 locs1 hq hw
  have := h r w' hq p e s m args below meth c A H1 locs1 ls hf hw hl
  rw [kmul]
  rw [List.map_append] at this
  cases r <;> exact this
theorem r_callV {E : Ev} {M : Mi} {d : Nat × Nat × Bool} {Q : Option Value → Wd → Prop} {k pc : Nat} {lv : List (Nat × Value)} {st : List Value} {w : Wd} {M' : Mi} {d' : Nat × Nat × Bool} {Q1 : Option Value → Wd → Prop} {idx n a ci : Nat} {As stk : List Value} (hmd : MDv M' n) (hlk : Cond.methodLink M.1.cls idx M'.1 ∈ gtbl) (hci : ci < 9) (hC : cC ci = M'.1.cls) (hn : As.length = n) (hR : d'.1 + 1 ≤ d.1) (hg : d'.2.2 = d.2.2) (hk : k + d'.2.1 ≤ d.2.1) (hst : (st.map fun v => v.category).sum ≤ 8) (hstk : stk = As.reverse ++ .ref a :: st) (hd : decode M.2.1 pc = .ok (.invokevirtual idx, 3)) (ha : isO w a ci) (hM : CT E M' d' (.ref a :: As) w Q1) (h : ∀ r w', Q1 r w' → Runs E M d Q (k + d'.2.1) (pc + 3) lv (r.toList ++ st) w') : Runs E M d Q k pc lv stk w := by
  intro p ev s m args below meth c A H locs ls hf hw hl
  subst hstk
  have hts := hf.2.2.2.2.2.2.2.1
  obtain ⟨⟨hini, hcode, hdesc, hnl⟩, hinst, hsel⟩ := hmd
  have hM := hM H.size
  rw [hg] at hM
  have ea := ws_at (E := E) ha.1
  rw [cE_o ha.2] at ea
  have hrecv := va_recv hf.2.2.2.2.2.2.2.2.1 hw.1 (ck_at hci) ea
  rw [show (cC ci, cT ci, (fT ci).length).1 = M'.1.cls from hC] at hrecv
  have cb : CallW (rmOf d) s args M.1.cls M'.1.cls idx M'.1 M'.2.1 M'.2.2.1 M'.2.2.2 (.code M'.1 M'.2.1 M'.2.2.1 M'.2.2.2 :: gtbl) (rmOf d') d'.2.1 (d'.2.1 * 1280) n :=
    ⟨callB_of n hts (gt_good hcode) rfl rfl rfl (hts _ hini) (hts _ hlk) hdesc ⟨by show d'.1 + 1 ≤ d.1; exact hR, by show 8 + (M'.2.2.1 + 11) + 32 * d'.1 ≤ 32 * d.1; have := hnl; omega⟩, hts _ hinst, hts _ hsel⟩
  have hr := va_runV (l := E.1) (e := ev) (below := below) (meth := meth) (locs := locs) (cells := k) (slots := k * 1280) (As := As.map (mv E)) (rest := st.map (mv E)) (b := lo E a) (g := F0 m pc ls ((As.reverse ++ .ref a :: st).map (mv E))) ⟨hf.1, hf.2.1, hf.2.2.1, hf.2.2.2.2.2.1, hts⟩ hM cb ⟨PC.blind, hrecv, PC.mk hf hw (.ref a :: As)⟩ rfl (by rw [List.length_map]; exact hn) hl.1 (rev_map E As a st) (lv_room (by rw [st_cat]; exact hst)) hd ⟨by show k + d'.2.1 ≤ d.2.1; exact hk, by show k * 1280 + d'.2.1 * 1280 ≤ d.2.1 * 1280; rw [kmul]; exact Nat.mul_le_mul_right 1280 hk⟩
  exact Runs.call hf.2.2.2.2.2.2.2.2.2.2 hw hr (runs_call h hf hl)
theorem r_callS {E : Ev} {M : Mi} {d : Nat × Nat × Bool} {Q : Option Value → Wd → Prop} {k pc : Nat} {lv : List (Nat × Value)} {st : List Value} {w : Wd} {M' : Mi} {d' : Nat × Nat × Bool} {Q1 : Option Value → Wd → Prop} {idx n : Nat} {As stk : List Value} (hmd : MDs M' n) (hlk : Cond.methodLink M.1.cls idx M'.1 ∈ gtbl) (hn : As.length = n) (hR : d'.1 + 1 ≤ d.1) (hg : d'.2.2 = d.2.2) (hk : k + d'.2.1 ≤ d.2.1) (hst : (st.map fun v => v.category).sum ≤ 8) (hstk : stk = As.reverse ++ st) (hd : decode M.2.1 pc = .ok (.invokestatic idx, 3)) (hM : CT E M' d' As w Q1) (h : ∀ r w', Q1 r w' → Runs E M d Q (k + d'.2.1) (pc + 3) lv (r.toList ++ st) w') : Runs E M d Q k pc lv stk w := by
  intro p ev s m args below meth c A H locs ls hf hw hl
  subst hstk
  have hts := hf.2.2.2.2.2.2.2.1
  obtain ⟨⟨hini, hcode, hdesc, hnl⟩, hsta⟩ := hmd
  have hM := hM H.size
  rw [hg] at hM
  have cb : CallB (rmOf d) s args M.1.cls idx M'.1 M'.2.1 M'.2.2.1 M'.2.2.2 (.code M'.1 M'.2.1 M'.2.2.1 M'.2.2.2 :: gtbl) (rmOf d') d'.2.1 (d'.2.1 * 1280) n ∧ (Cond.static M'.1).before args s = true :=
    ⟨callB_of n hts (gt_good hcode) rfl rfl rfl (hts _ hini) (hts _ hlk) hdesc ⟨by show d'.1 + 1 ≤ d.1; exact hR, by show 8 + (M'.2.2.1 + 11) + 32 * d'.1 ≤ 32 * d.1; have := hnl; omega⟩, hts _ hsta⟩
  have hr := va_runS (l := E.1) (e := ev) (below := below) (meth := meth) (locs := locs) (cells := k) (slots := k * 1280) (As := As.map (mv E)) (rest := st.map (mv E)) (g := F0 m pc ls ((As.reverse ++ st).map (mv E))) ⟨hf.1, hf.2.1, hf.2.2.1, hf.2.2.2.2.2.1, hts⟩ hM cb ⟨PC.blind, PC.mk hf hw As⟩ rfl (by rw [List.length_map]; exact hn) hl.1 (by rw [← List.map_reverse, ← List.map_append]) (lv_room (by rw [st_cat]; exact hst)) hd ⟨by show k + d'.2.1 ≤ d.2.1; exact hk, by show k * 1280 + d'.2.1 * 1280 ≤ d.2.1 * 1280; rw [kmul]; exact Nat.mul_le_mul_right 1280 hk⟩
  exact Runs.call hf.2.2.2.2.2.2.2.2.2.2 hw hr (runs_call h hf hl)
theorem r_callSN {E : Ev} {M : Mi} {d : Nat × Nat × Bool} {Q : Option Value → Wd → Prop} {k pc : Nat} {lv : List (Nat × Value)} {st : List Value} {w : Wd} {M' : Mi} {d' : Nat × Nat × Bool} {Q1 : Option Value → Wd → Prop} {idx n : Nat} {As stk : List Value} (hmd : MDs M' n) (hlk : (M.1.cls, idx, M'.1) ∈ nwM) (hn : As.length = n) (hR : d'.1 + 1 ≤ d.1) (hg : d'.2.2 = d.2.2) (hk : k + d'.2.1 ≤ d.2.1) (hst : (st.map fun v => v.category).sum ≤ 8) (hstk : stk = As.reverse ++ st) (hd : decode M.2.1 pc = .ok (.invokestatic idx, 3)) (hM : CT E M' d' As w Q1) (h : ∀ r w', Q1 r w' → Runs E M d Q (k + d'.2.1) (pc + 3) lv (r.toList ++ st) w') : Runs E M d Q k pc lv stk w := by
  intro p ev s m args below meth c A H locs ls hf hw hl
  subst hstk
  have hts := hf.2.2.2.2.2.2.2.1
  obtain ⟨⟨hini, hcode, hdesc, hnl⟩, hsta⟩ := hmd
  have hM := hM H.size
  rw [hg] at hM
  have hnw := hf.2.2.2.2.2.2.2.2.2.1.2.2.2.2.2.1 _ hlk
  have cb : va_CN (rmOf d) s args M.1.cls idx M'.1 RX7 M'.2.1 M'.2.2.1 M'.2.2.2 (.code M'.1 M'.2.1 M'.2.2.1 M'.2.2.2 :: gtbl) (rmOf d') d'.2.1 (d'.2.1 * 1280) n ∧ (Cond.static M'.1).before args s = true ∧ True :=
    ⟨va_cnB n hts (gt_good hcode) rfl rfl rfl hnw (hts _ hini) hdesc ⟨by show d'.1 + 1 ≤ d.1; exact hR, by show 8 + (M'.2.2.1 + 11) + 32 * d'.1 ≤ 32 * d.1; have := hnl; omega⟩, hts _ hsta, trivial⟩
  have hr := va_runSN (l := E.1) (e := ev) (below := below) (meth := meth) (locs := locs) (cells := k) (slots := k * 1280) (As := As.map (mv E)) (rest := st.map (mv E)) (g := F0 m pc ls ((As.reverse ++ st).map (mv E))) ⟨hf.1, hf.2.1, hf.2.2.1, hf.2.2.2.2.2.1, hts⟩ hM cb ⟨PC.blind, PC.mk hf hw As⟩ rfl (by rw [List.length_map]; exact hn) hl.1 (by rw [← List.map_reverse, ← List.map_append]) (lv_room (by rw [st_cat]; exact hst)) hd ⟨by show k + d'.2.1 ≤ d.2.1; exact hk, by show k * 1280 + d'.2.1 * 1280 ≤ d.2.1 * 1280; rw [kmul]; exact Nat.mul_le_mul_right 1280 hk⟩
  exact Runs.call hf.2.2.2.2.2.2.2.2.2.2 hw hr (runs_call h hf hl)
theorem r_callI {E : Ev} {M : Mi} {d : Nat × Nat × Bool} {Q : Option Value → Wd → Prop} {k pc : Nat} {lv : List (Nat × Value)} {st : List Value} {w : Wd} {y : MethodName} {bytes : ByteArray} {nl : Nat} {d' : Nat × Nat × Bool} {Q1 : Option Value → Wd → Prop} {idx n a : Nat} {As stk : List Value} (hmd : MDi (y, bytes, nl, none) n) (hlk : Cond.methodLink M.1.cls idx y ∈ gtbl) (hn : As.length = n) (hR : d'.1 + 1 ≤ d.1) (hg : d'.2.2 = d.2.2) (hk : k + d'.2.1 ≤ d.2.1) (hst : (st.map fun v => v.category).sum ≤ 8) (hstk : stk = As.reverse ++ .ref a :: st) (hd : decode M.2.1 pc = .ok (.invokespecial idx, 3)) (hM : CT E (y, bytes, nl, none) d' (.ref a :: As) w Q1) (h : ∀ r w', Q1 r w' → Runs E M d Q (k + d'.2.1) (pc + 3) lv (r.toList ++ st) w') : Runs E M d Q k pc lv stk w := by
  intro p ev s m args below meth c A H locs ls hf hw hl
  subst hstk
  have hts := hf.2.2.2.2.2.2.2.1
  obtain ⟨⟨hini, hcode, hdesc, hnl⟩, hinst, hnm, -⟩ := hmd
  have hnl : nl ≤ 13 := hnl
  have hM := hM H.size
  rw [hg] at hM
  have cb : CallB (rmOf d) s args M.1.cls idx y bytes nl none (.code y bytes nl none :: gtbl) (rmOf d') d'.2.1 (d'.2.1 * 1280) n ∧ y.name = "<init>" ∧ (Cond.instanceMethod y).before args s = true :=
    ⟨callB_of n hts (gt_good hcode) rfl rfl rfl (hts _ hini) (hts _ hlk) hdesc ⟨by show d'.1 + 1 ≤ d.1; exact hR, by show 8 + (nl + 11) + 32 * d'.1 ≤ 32 * d.1; have := hnl; omega⟩, hnm, hts _ hinst⟩
  have hr := va_runI (l := E.1) (e := ev) (below := below) (meth := meth) (locs := locs) (cells := k) (slots := k * 1280) (As := As.map (mv E)) (rest := st.map (mv E)) (b := lo E a) (g := F0 m pc ls ((As.reverse ++ .ref a :: st).map (mv E))) ⟨hf.1, hf.2.1, hf.2.2.1, hf.2.2.2.2.2.1, hts⟩ hM cb ⟨PC.blind, PC.mk hf hw (.ref a :: As)⟩ rfl (by rw [List.length_map]; exact hn) hl.1 (rev_map E As a st) (lv_room (by rw [st_cat]; exact hst)) hd ⟨by show k + d'.2.1 ≤ d.2.1; exact hk, by show k * 1280 + d'.2.1 * 1280 ≤ d.2.1 * 1280; rw [kmul]; exact Nat.mul_le_mul_right 1280 hk⟩
  exact Runs.call hf.2.2.2.2.2.2.2.2.2.2 hw hr (runs_call h hf hl)
theorem r_callIN {E : Ev} {M : Mi} {d : Nat × Nat × Bool} {Q : Option Value → Wd → Prop} {k pc : Nat} {lv : List (Nat × Value)} {st : List Value} {w : Wd} {y : MethodName} {bytes : ByteArray} {nl : Nat} {d' : Nat × Nat × Bool} {Q1 : Option Value → Wd → Prop} {idx n a : Nat} {As stk : List Value} (hmd : MDi (y, bytes, nl, none) n) (hlk : (M.1.cls, idx, y) ∈ nwM) (hn : As.length = n) (hR : d'.1 + 1 ≤ d.1) (hg : d'.2.2 = d.2.2) (hk : k + d'.2.1 ≤ d.2.1) (hst : (st.map fun v => v.category).sum ≤ 8) (hstk : stk = As.reverse ++ .ref a :: st) (hd : decode M.2.1 pc = .ok (.invokespecial idx, 3)) (hM : CT E (y, bytes, nl, none) d' (.ref a :: As) w Q1) (h : ∀ r w', Q1 r w' → Runs E M d Q (k + d'.2.1) (pc + 3) lv (r.toList ++ st) w') : Runs E M d Q k pc lv stk w := by
  intro p ev s m args below meth c A H locs ls hf hw hl
  subst hstk
  have hts := hf.2.2.2.2.2.2.2.1
  obtain ⟨⟨hini, hcode, hdesc, hnl⟩, hinst, hnm, -⟩ := hmd
  have hnl : nl ≤ 13 := hnl
  have hM := hM H.size
  rw [hg] at hM
  have hnw := hf.2.2.2.2.2.2.2.2.2.1.2.2.2.2.2.1 _ hlk
  have cb : va_CN (rmOf d) s args M.1.cls idx y RX7 bytes nl none (.code y bytes nl none :: gtbl) (rmOf d') d'.2.1 (d'.2.1 * 1280) n ∧ y.name = "<init>" ∧ (Cond.instanceMethod y).before args s = true :=
    ⟨va_cnB n hts (gt_good hcode) rfl rfl rfl hnw (hts _ hini) hdesc ⟨by show d'.1 + 1 ≤ d.1; exact hR, by show 8 + (nl + 11) + 32 * d'.1 ≤ 32 * d.1; have := hnl; omega⟩, hnm, hts _ hinst⟩
  have hr := va_runIN (l := E.1) (e := ev) (below := below) (meth := meth) (locs := locs) (cells := k) (slots := k * 1280) (As := As.map (mv E)) (rest := st.map (mv E)) (b := lo E a) (g := F0 m pc ls ((As.reverse ++ .ref a :: st).map (mv E))) ⟨hf.1, hf.2.1, hf.2.2.1, hf.2.2.2.2.2.1, hts⟩ hM cb ⟨PC.blind, PC.mk hf hw (.ref a :: As)⟩ rfl (by rw [List.length_map]; exact hn) hl.1 (rev_map E As a st) (lv_room (by rw [st_cat]; exact hst)) hd ⟨by show k + d'.2.1 ≤ d.2.1; exact hk, by show k * 1280 + d'.2.1 * 1280 ≤ d.2.1 * 1280; rw [kmul]; exact Nat.mul_le_mul_right 1280 hk⟩
  exact Runs.call hf.2.2.2.2.2.2.2.2.2.2 hw hr (runs_call h hf hl)
/-! new cells -/
theorem lo_succ {E : Ev} {a : Nat} (h : a < 999) : lo E (a + 1) = lo E a + 1 := by
  unfold lo
  rw [if_pos (by omega), if_pos (by omega)]
  omega
theorem ws_al {E : Ev} {w : Wd} {kd n : Nat} : ws E (al w kd n) = ws E w ++ [(lo E (wN w), cE E (al w kd n) (wN w))] := by
  have e : wN (al w kd n) = wN w + 1 := rfl
  unfold ws
  rw [e, List.range_succ, List.map_append]
  congr 1
  apply List.map_congr_left
  intro b hb
  rw [cE_al (Nat.ne_of_lt (List.mem_range.mp hb))]
theorem Wo.alloc {E : Ev} {A : Nat → Prop} {H0 H H1 : Heap} {w : Wd} {kd n : Nat} {locs : List Loc} (hw : Wo E A H0 w true H locs) (hA : ∀ q : Nat, H0.size ≤ q → A q) (hn : wN w < 999) (z : H1.size = H.size + 1) (o : ∀ q : Nat, q < H.size → H1[q]? = H[q]?) (hat : va_at E.2.1 vwCl (H.size, cE E (al w kd n) (wN w)) H1) : Wo E A H0 (al w kd n) true H1 locs := by
  obtain ⟨hP, hD, hS, hg⟩ := hw
  have hz := hg rfl
  have hk : ∀ (i : Nat) (x : Nat × va_E), (ws E w)[i]? = some x → H1[x.1]? = H[x.1]? := fun i x hx => o x.1 ((hP i x hx).lt)
  refine ⟨?_, ?_, ⟨Nat.le_trans hS.1 (by omega), fun x h1 h2 => (o x (Nat.lt_of_lt_of_le h1 hS.1)).trans (hS.2.1 x h1 h2), hS.2.2⟩, fun _ => ?_⟩
  · rw [ws_al, ← hz]
    refine (hP.kept hk).app (fun i x hx => ?_)
    have hi : i < 1 := (List.getElem?_eq_some_iff.mp hx).1
    rw [show i = 0 by omega] at hx
    cases hx
    exact hat
  · rw [ws_al, ← hz]
    exact hD.push hP rfl (hA _ hS.1)
  · have e : wN (al w kd n) = wN w + 1 := rfl
    rw [e, lo_succ hn, z, hz]
theorem ck_df : ∀ ci, ci < 9 → ∀ f, f < (fT ci).length → defaultValue (cY ci f) = if (fT ci).getD f 0 = 0 then .int 0 else .null := by decide +kernel
theorem al_K (w : Wd) (kd n : Nat) : wK (al w kd n) (wN w) = kd := by show (ua w.2.1 w.1 (kd, n) w.1).1 = kd; rw [ua_eq]
theorem al_n (w : Wd) (kd n : Nat) : wn (al w kd n) (wN w) = n := by show (ua w.2.1 w.1 (kd, n) w.1).2 = n; rw [ua_eq]
theorem al_I (w : Wd) (kd n : Nat) : wI (al w kd n) (wN w) = fun _ => 0 := by show ua w.2.2.1 w.1 _ w.1 = _; rw [ua_eq]
theorem al_L (w : Wd) (kd n : Nat) : wL (al w kd n) (wN w) = fun _ => 0 := by show ua w.2.2.2.1 w.1 _ w.1 = _; rw [ua_eq]
theorem al_R (w : Wd) (kd n : Nat) : wR (al w kd n) (wN w) = fun _ => none := by show ua w.2.2.2.2 w.1 _ w.1 = _; rw [ua_eq]
theorem rslots {k x mc : Nat} (hk : k + 1 ≤ mc) (hx : x ≤ 1280) : k * 1280 + x ≤ mc * 1280 := by
  have := Nat.mul_le_mul_right 1280 hk
  omega
theorem r_new {E : Ev} {M : Mi} {d : Nat × Nat × Bool} {Q : Option Value → Wd → Prop} {k pc : Nat} {lv : List (Nat × Value)} {st : List Value} {w : Wd} {idx ci : Nat} (hg : d.2.2 = true) (hk : k + 1 ≤ d.2.1) (hci : ci < 9) (hkw : ckw ci) (hlk : Cond.classLink M.1.cls idx (cC ci) ∈ gtbl) (hinst : Cond.instantiable (cC ci) (fT ci).length ∈ gtbl) (hini : Cond.initialized (cC ci) ∈ gtbl) (hN : wN w < 999) (hd : decode M.2.1 pc = .ok (.new idx, 3)) (h : Runs E M d Q (k + 1) (pc + 3) lv (.ref (wN w) :: st) (al w (ci + 10) 0)) : Runs E M d Q k pc lv st w := by
  intro p ev s m args below meth c A H locs ls hf hw hl
  have hts := hf.2.2.2.2.2.2.2.1
  rw [hg] at hw
  have hKn := hf.2.2.2.2.2.2.2.2.1.1 ci _ (ck_at hci)
  have hlen : (fT ci).length ≤ 1280 := by rcases n9 hci with rfl | rfl | rfl | rfl | rfl | rfl | rfl | rfl | rfl <;> decide
  refine W.newcK hf.1 hf.2.1 hf.2.2.2.2.2.1 (hts _ hlk) (hts _ hinst) (hts _ hini) rfl hd (by show k + 1 ≤ d.2.1; exact hk) (by show _ ≤ d.2.1 * 1280; exact rslots hk hlen) hKn.2.1 rfl fun H1 kC hkC e1 z1 o1 => ?_
  refine W.widen (k := k + 1) (n := (k + 1) * 1280) (Nat.le_refl _) (by omega) ?_
  have hz := hw.2.2.2 rfl
  have := h p ev s m args below meth c A H1 locs ls hf (by rw [hg]; exact hw.alloc (kd := ci + 10) (n := 0) hf.2.2.2.2.2.2.2.2.2.2 hN z1 o1 (by
    rw [cE_o (al_K w _ _)]
    refine ⟨_, ck_at hci, (u_born (cY ci) hts hkw hKn hkC e1 (ck_ty hci)).to (fun j hj => ?_)⟩
    have hov : vp_V (oV E (al w (ci + 10) 0) ci (wN w)) j = fv E (al w (ci + 10) 0) (wN w) ((fT ci).getD j 0) j := by
      rw [vp_V, List.getD_eq_getElem?_getD, oV_at hj]
      rfl
    rw [ck_df ci hci j hj]
    refine Eq.trans ?_ hov.symm
    rw [fv, al_I, al_R]
    rfl)) hl
  rw [List.map_cons] at this
  show W p E.1 ev (rmOf d) s m args below meth c H1 locs (k + 1) ((k + 1) * 1280) _ (F0 m (pc + 3) ls (.ref H.size :: st.map (mv E)))
  rw [hz]
  exact this
theorem r_newI {E : Ev} {M : Mi} {d : Nat × Nat × Bool} {Q : Option Value → Wd → Prop} {k pc : Nat} {lv : List (Nat × Value)} {st : List Value} {w : Wd} {x : Int32} (hg : d.2.2 = true) (hk : k + 1 ≤ d.2.1) (harr : Cond.arrayClass .int ∈ gtbl) (hx : ¬ x < 0) (hx2 : x.toNatClampNeg ≤ 1280) (hN : wN w < 999) (hd : decode M.2.1 pc = .ok (.newarray .int, 2)) (h : Runs E M d Q (k + 1) (pc + 2) lv (.ref (wN w) :: st) (al w 0 x.toNatClampNeg)) : Runs E M d Q k pc lv (.int x :: st) w := by
  intro p ev s m args below meth c A H locs ls hf hw hl
  have hts := hf.2.2.2.2.2.2.2.1
  rw [hg] at hw
  refine va_newaK (atype := .int) (N := x.toNatClampNeg) hf.1 hf.2.1 (hts _ harr) rfl hd rfl hx rfl (by show x.toNatClampNeg * 4 ≤ 536870912; omega) (by show k + 1 ≤ d.2.1; exact hk) (by show _ ≤ d.2.1 * 1280; exact rslots hk hx2) rfl fun H1 cA e1 z1 o1 hAr hNm => ?_
  refine W.widen (k := k + 1) (n := (k + 1) * 1280) (Nat.le_refl _) (by omega) ?_
  have hz := hw.2.2.2 rfl
  have hcA : cA = E.2.2.1 0 := by
    have hq : s.vm.findClass ("[" ++ (FieldType.int).toString) = some (E.2.2.1 0) := (hf.2.2.2.2.2.2.2.2.1.2 0 _ (tys_0 E)).2
    exact Option.some.inj (hNm.symm.trans hq)
  have := h p ev s m args below meth c A H1 locs ls hf (by rw [hg]; exact hw.alloc (kd := 0) (n := x.toNatClampNeg) hf.2.2.2.2.2.2.2.2.2.2 hN z1 o1 (by
    rw [cE_0 (al_K w _ _), al_n, al_I]
    show H1[H.size]? = some (vp_cell _ _)
    rw [e1, hcA]
    rfl)) hl
  rw [List.map_cons] at this
  show W p E.1 ev (rmOf d) s m args below meth c H1 locs (k + 1) ((k + 1) * 1280) _ (F0 m (pc + 2) ls (.ref H.size :: st.map (mv E)))
  rw [hz]
  exact this
theorem r_newL {E : Ev} {M : Mi} {d : Nat × Nat × Bool} {Q : Option Value → Wd → Prop} {k pc : Nat} {lv : List (Nat × Value)} {st : List Value} {w : Wd} {x : Int32} (hg : d.2.2 = true) (hk : k + 1 ≤ d.2.1) (harr : Cond.arrayClass .long ∈ gtbl) (hx : ¬ x < 0) (hx2 : x.toNatClampNeg ≤ 1280) (hN : wN w < 999) (hd : decode M.2.1 pc = .ok (.newarray .long, 2)) (h : Runs E M d Q (k + 1) (pc + 2) lv (.ref (wN w) :: st) (al w 1 x.toNatClampNeg)) : Runs E M d Q k pc lv (.int x :: st) w := by
  intro p ev s m args below meth c A H locs ls hf hw hl
  have hts := hf.2.2.2.2.2.2.2.1
  rw [hg] at hw
  refine va_newaK (atype := .long) (N := x.toNatClampNeg) hf.1 hf.2.1 (hts _ harr) rfl hd rfl hx rfl (by show x.toNatClampNeg * 8 ≤ 536870912; omega) (by show k + 1 ≤ d.2.1; exact hk) (by show _ ≤ d.2.1 * 1280; exact rslots hk hx2) rfl fun H1 cA e1 z1 o1 hAr hNm => ?_
  refine W.widen (k := k + 1) (n := (k + 1) * 1280) (Nat.le_refl _) (by omega) ?_
  have hz := hw.2.2.2 rfl
  have hcA : cA = E.2.2.1 1 := by
    have hq : s.vm.findClass ("[" ++ (FieldType.long).toString) = some (E.2.2.1 1) := (hf.2.2.2.2.2.2.2.2.1.2 1 _ (tys_1 E)).2
    exact Option.some.inj (hNm.symm.trans hq)
  have := h p ev s m args below meth c A H1 locs ls hf (by rw [hg]; exact hw.alloc (kd := 1) (n := x.toNatClampNeg) hf.2.2.2.2.2.2.2.2.2.2 hN z1 o1 (by
    rw [cE_1 (al_K w _ _), al_n, al_L]
    show H1[H.size]? = some (vp_cell _ _)
    rw [e1, hcA]
    rfl)) hl
  rw [List.map_cons] at this
  show W p E.1 ev (rmOf d) s m args below meth c H1 locs (k + 1) ((k + 1) * 1280) _ (F0 m (pc + 2) ls (.ref H.size :: st.map (mv E)))
  rw [hz]
  exact this
theorem r_anew {E : Ev} {M : Mi} {d : Nat × Nat × Bool} {Q : Option Value → Wd → Prop} {k pc : Nat} {lv : List (Nat × Value)} {st : List Value} {w : Wd} {idx : Nat} {x : Int32} (j : Nat) (h2 : 2 ≤ j) (h3 : j < 5) (hg : d.2.2 = true) (hk : k + 1 ≤ d.2.1) (hlk : Cond.classLink M.1.cls idx (tyC j) ∈ gtbl) (hx : ¬ x < 0) (hx2 : x.toNatClampNeg ≤ 1280) (hN : wN w < 999) (hd : decode M.2.1 pc = .ok (.anewarray idx, 3)) (h : Runs E M d Q (k + 1) (pc + 3) lv (.ref (wN w) :: st) (al w j x.toNatClampNeg)) : Runs E M d Q k pc lv (.int x :: st) w := by
  intro p ev s m args below meth c A H locs ls hf hw hl
  have hts := hf.2.2.2.2.2.2.2.1
  rw [hg] at hw
  have hST := hf.2.2.2.2.2.2.2.2.2.1.2.2.2.2.2.2.2
  have hover : va_AO (tyC j) s := by
    rcases (show j = 2 ∨ j = 3 ∨ j = 4 by omega) with rfl | rfl | rfl
    · exact hST.1
    · exact hST.2.1
    · exact hST.2.2
  have hK := hf.2.2.2.2.2.2.2.2.1
  refine W.anew hf.1 hf.2.1 hf.2.2.2.2.2.1 (hts _ hlk) (va_AO.use hover) rfl hd rfl hx (by omega) (by show k + 1 ≤ d.2.1; exact hk) (by show _ ≤ d.2.1 * 1280; exact rslots hk hx2) fun cA kA comp f1 f2 f3 f4 => ?_
  generalize hH1 : H.push ({ cls := cA, slots := Array.replicate x.toNatClampNeg .null, vm := .none } : Cell) = H1
  have z1 : H1.size = H.size + 1 := by rw [← hH1, Array.size_push]
  have e1 : H1[H.size]? = some (arrV cA x.toNatClampNeg (fun _ => .null)) := by rw [← hH1, Array.getElem?_push_size, ← arrV_new]
  have o1 : ∀ q : Nat, q < H.size → H1[q]? = H[q]? := fun q hq => by rw [← hH1, Array.getElem?_push, if_neg (Nat.ne_of_lt hq)]
  refine W.widen (k := k + 1) (n := (k + 1) * 1280) (Nat.le_refl _) (by omega) ?_
  have hz := hw.2.2.2 rfl
  have hcA : cA = E.2.2.1 j := by
    obtain ⟨_, _, _, _, _, hq⟩ := (hK.2 j _ (tys_r E h2 h3)).2
    exact Option.some.inj (f1.symm.trans hq)
  have := h p ev s m args below meth c A H1 locs ls hf (by rw [hg]; exact hw.alloc (kd := j) (n := x.toNatClampNeg) hf.2.2.2.2.2.2.2.2.2.2 hN z1 o1 (by
    rw [cE_r (al_K w _ _) h2 (by omega), al_n, al_R]
    show H1[H.size]? = some (vp_cell _ _)
    rw [e1, hcA]
    rfl)) hl
  rw [List.map_cons] at this
  show W p E.1 ev (rmOf d) s m args below meth c H1 locs (k + 1) ((k + 1) * 1280) _ (F0 m (pc + 3) ls (.ref H.size :: st.map (mv E)))
  rw [hz]
  exact this
theorem r_objInit {E : Ev} {M : Mi} {d : Nat × Nat × Bool} {Q : Option Value → Wd → Prop} {k pc : Nat} {lv : List (Nat × Value)} {st : List Value} {w : Wd} {a idx : Nat} (hd1 : 1 ≤ d.1) (hst : (st.map fun v => v.category).sum ≤ 8) (hlk : Cond.methodLink M.1.cls idx objectInit ∈ gtbl) (hin : Cond.instanceMethod objectInit ∈ gtbl) (hco : Cond.code objectInit ⟨#[0xb1]⟩ 1 none ∈ gtbl) (hd : decode M.2.1 pc = .ok (.invokespecial idx, 3)) (h : Runs E M d Q k (pc + 3) lv st w) : Runs E M d Q k pc lv (.ref a :: st) w := by
  intro p ev s m args below meth c A H locs ls hf hw hl
  have hts := hf.2.2.2.2.2.2.2.1
  exact W.objInit hf.1 hf.2.1 hf.2.2.2.2.2.1 (hts _ hlk) (hts _ hin) (hts _ hco) rfl (by rw [hf.2.2.1]; exact hl.1) rfl hd (by show 1 ≤ d.1; exact hd1) (by show 2 * 0 + _ + 12 ≤ 32 * d.1; rw [st_cat]; omega) (h p ev s m args below meth c A H locs ls hf hw hl)
