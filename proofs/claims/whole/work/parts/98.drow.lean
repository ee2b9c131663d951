/-! the law's rows over a world -/
abbrev oldS (s : State) : Nat → Prop := fun q => s.heap.size ≤ q
def mLw (n : String) : Mi := (⟨R_law, n, ""⟩, code, 4, ret)
theorem Fx_law {E : Ev} {p : Program} {s : State} {m : MethodId} {meth : Method} {c : Code} {b L : Nat} {xs : Nat → Int32} (C0 : lw_At p s m meth c b L xs) (hK : va_K E.2.1 vwCl (tysL E) s) (hST : ST E (oldS s) s s.heap) : Fx E (mLw meth.name) p s m #[Value.ref b] meth c (oldS s) := by
  obtain ⟨hx, hb, hr, hml, hown, hts, hX, hbl, hlocks, hgv⟩ := C0
  exact ⟨hx, hb, hml, hr, hlocks, hown, rfl, fun t ht => hts t (List.mem_filter.mp ht).1, hK, hST, fun _ h => h⟩
theorem L_run {E : Ev} {p : Program} {e : Env} {R : Room} {s : State} {m : MethodId} {args : Array Value} {below : List Frame} {meth : Method} {c : Code} {w : Wd} {g : Bool} {H : Heap} {cells slots mc ms pc : Nat} {ls : Array Slot} {st0 rest : List Value} {Q1 : Option Value → Wd → Prop} {a : Array Value} {Z : State → Prop}
    (hw : Wo E (oldS s) s.heap w g H []) (hr : va_Run p E.1 e R s m args below meth c H [] cells slots mc ms (F0 m pc ls st0) rest (QC E (AA E w H.size) g Q1 a) (AA E w H.size))
    (kk : ∀ (r : Option Value) (w' : Wd) (H1 : Heap), Q1 r w' → Wo E (oldS s) s.heap w' g H1 [] → H.size ≤ H1.size → (∀ q : Nat, q < H.size → ¬ AA E w H.size q → H1[q]? = H[q]?) → W p E.1 e R s m args below meth c H1 [] (cells + mc) (slots + ms) Z (F0 m (pc + 3) ls ((r.map (mv E)).toList ++ rest))) : W p E.1 e R s m args below meth c H [] cells slots Z (F0 m pc ls st0) := by
  intro T hT X
  obtain ⟨v, st₀, t, T', L, h0, X', hL, e1, e2, ⟨⟨r, w', hv, hq, hP, -, hD, hg⟩, hz, hk⟩, stp⟩ := hr T hT X
  cases hv
  rw [h0] at hz hk
  have hin := AA_in hw (fun _ h => h)
  have W1 := kk r w' T'.heap hq ⟨by rw [e1]; exact hP, hD.weaken (fun _ q _ h => hin q.1 h), ⟨Nat.le_trans hw.2.2.1.1 (by rw [e1]; exact hz), fun q h1 h2 => by rw [e1, hk q (Nat.lt_of_lt_of_le h1 hw.2.2.1.1) (fun z => h2 (hin q z))]; exact hw.2.2.1.2.1 q h1 h2, fun q h => absurd h List.not_mem_nil⟩, fun q => by rw [e1]; exact hg q⟩ (by rw [e1]; exact hz) (fun q h1 h2 => by rw [e1]; exact hk q h1 h2)
  obtain ⟨t2, a1, b1⟩ := (va_forget (locs := [] ++ L) (fun q h => hin _ (hL q h)) W1) T' rfl X'
  exact ⟨t2, stp t2 a1, b1⟩
theorem L_callV {E : Ev} {p : Program} {e : Env} {s : State} {m : MethodId} {b : Nat} {n0 : String} {below : List Frame} {meth : Method} {c : Code} {w : Wd} {H : Heap} {k pc : Nat} {ls : Array Slot} {st stk : List Value} {Z : State → Prop} {M' : Mi} {d' : Nat × Nat × Bool} {Q1 : Option Value → Wd → Prop} {idx n a ci : Nat} {As : List Value}
    (hf : Fx E (mLw n0) p s m #[Value.ref b] meth c (oldS s)) (hw : Wo E (oldS s) s.heap w false H []) (hl : ls.size = 4) (hmd : MDv M' n) (hlk : Cond.methodLink R_law idx M'.1 ∈ gtbl) (hci : ci < 9) (hC : cC ci = M'.1.cls) (hn : As.length = n) (hR : d'.1 ≤ 2000) (hm0 : d'.2.1 = 0) (hg : d'.2.2 = false) (hk : k ≤ 5000) (hst : (st.map fun v => v.category).sum ≤ 8) (hstk : stk = (As.map (mv E)).reverse ++ .ref (lo E a) :: st) (hd : decode code pc = .ok (.invokevirtual idx, 3)) (ha : isO w a ci) (hM : CT E M' d' (.ref a :: As) w Q1)
    (kk : ∀ (r : Option Value) (w' : Wd) (H1 : Heap), Q1 r w' → Wo E (oldS s) s.heap w' false H1 [] → H.size ≤ H1.size → (∀ q : Nat, q < H.size → ¬ AA E w H.size q → H1[q]? = H[q]?) → W p E.1 e room_1 s m #[Value.ref b] below meth c H1 [] k (k * 1280) Z (F0 m (pc + 3) ls ((r.map (mv E)).toList ++ st))) : W p E.1 e room_1 s m #[Value.ref b] below meth c H [] k (k * 1280) Z (F0 m pc ls stk) := by
  subst hstk
  have hts := hf.2.2.2.2.2.2.2.1
  obtain ⟨⟨hini, hcode, hdesc, hnl⟩, hinst, hsel⟩ := hmd
  obtain ⟨fr, mc, gg⟩ := d'
  obtain rfl : mc = 0 := hm0
  obtain rfl : gg = false := hg
  have hR : fr ≤ 2000 := hR
  have hM := hM H.size
  have ea := ws_at (E := E) ha.1
  rw [cE_o ha.2] at ea
  have hrecv := va_recv hf.2.2.2.2.2.2.2.2.1 hw.1 (ck_at hci) ea
  rw [show (cC ci, cT ci, (fT ci).length).1 = M'.1.cls from hC] at hrecv
  have cb : CallW room_1 s #[Value.ref b] R_law M'.1.cls idx M'.1 M'.2.1 M'.2.2.1 M'.2.2.2 (.code M'.1 M'.2.1 M'.2.2.1 M'.2.2.2 :: gtbl) (rmOf (fr, 0, false)) 0 (0 * 1280) n :=
    ⟨callB_of n hts (gt_good hcode) rfl rfl rfl (hts _ hini) (hts _ hlk) hdesc ⟨by show fr + 1 ≤ 2048; omega, by show 8 + (M'.2.2.1 + 11) + 32 * fr ≤ 84000; omega⟩, hts _ hinst, hts _ hsel⟩
  have hr := va_runV (l := E.1) (e := e) (below := below) (meth := meth) (locs := []) (cells := k) (slots := k * 1280) (As := As.map (mv E)) (rest := st) (b := lo E a) (g := F0 m pc ls ((As.map (mv E)).reverse ++ .ref (lo E a) :: st)) ⟨hf.1, hf.2.1, hf.2.2.1, hf.2.2.2.2.2.1, hts⟩ hM cb ⟨PC.blind, hrecv, PC.mk hf hw (.ref a :: As)⟩ rfl (by rw [List.length_map]; exact hn) hl rfl (lv_room hst) hd ⟨by show k + 0 ≤ 600000; omega, by show k * 1280 + 0 * 1280 ≤ 7302250; omega⟩
  refine L_run hw hr (fun r w' H1 q1 q2 q3 q4 => ?_)
  have := kk r w' H1 q1 q2 q3 q4
  rw [Nat.add_zero, Nat.zero_mul, Nat.add_zero]
  exact this
theorem L_init {E : Ev} {p : Program} {e : Env} {s : State} {m : MethodId} {b : Nat} {n0 : String} {below : List Frame} {meth : Method} {c : Code} {w : Wd} {H : Heap} {k pc : Nat} {ls : Array Slot} {st : List Value} {Z : State → Prop} {y : MethodName} {bytes : ByteArray} {nl : Nat} {d' : Nat × Nat × Bool} {Q1 : Option Value → Wd → Prop} {idx a : Nat}
    (hf : Fx E (mLw n0) p s m #[Value.ref b] meth c (oldS s)) (hw : Wo E (oldS s) s.heap w true H []) (hl : ls.size = 4) (hmd : MDi (y, bytes, nl, none) 0) (hlk : Cond.methodLink R_law idx y ∈ gtbl) (hR : d'.1 ≤ 2000) (hg : d'.2.2 = true) (hk : k + d'.2.1 ≤ 5000) (hst : (st.map fun v => v.category).sum ≤ 8) (hd : decode code pc = .ok (.invokespecial idx, 3)) (hM : CT E (y, bytes, nl, none) d' [.ref a] w Q1)
    (kk : ∀ (r : Option Value) (w' : Wd) (H1 : Heap), Q1 r w' → Wo E (oldS s) s.heap w' true H1 [] → H.size ≤ H1.size → (∀ q : Nat, q < H.size → ¬ AA E w H.size q → H1[q]? = H[q]?) → W p E.1 e room_1 s m #[Value.ref b] below meth c H1 [] (k + d'.2.1) ((k + d'.2.1) * 1280) Z (F0 m (pc + 3) ls ((r.map (mv E)).toList ++ st))) : W p E.1 e room_1 s m #[Value.ref b] below meth c H [] k (k * 1280) Z (F0 m pc ls (.ref (lo E a) :: st)) := by
  have hts := hf.2.2.2.2.2.2.2.1
  obtain ⟨⟨hini, hcode, hdesc, hnl⟩, hinst, hnm, -⟩ := hmd
  have hnl : nl ≤ 13 := hnl
  have hM := hM H.size
  rw [hg] at hM
  have cb : CallB room_1 s #[Value.ref b] R_law idx y bytes nl none (.code y bytes nl none :: gtbl) (rmOf d') d'.2.1 (d'.2.1 * 1280) 0 ∧ y.name = "<init>" ∧ (Cond.instanceMethod y).before #[Value.ref b] s = true :=
    ⟨callB_of 0 hts (gt_good hcode) rfl rfl rfl (hts _ hini) (hts _ hlk) hdesc ⟨by show d'.1 + 1 ≤ 2048; omega, by show 8 + (nl + 11) + 32 * d'.1 ≤ 84000; omega⟩, hnm, hts _ hinst⟩
  have hr := va_runI (l := E.1) (e := e) (below := below) (meth := meth) (locs := []) (cells := k) (slots := k * 1280) (As := []) (rest := st) (b := lo E a) (g := F0 m pc ls (.ref (lo E a) :: st)) ⟨hf.1, hf.2.1, hf.2.2.1, hf.2.2.2.2.2.1, hts⟩ hM cb ⟨PC.blind, PC.mk hf hw [.ref a]⟩ rfl rfl hl rfl (lv_room hst) hd ⟨by show k + d'.2.1 ≤ 600000; omega, by show k * 1280 + d'.2.1 * 1280 ≤ 7302250; omega⟩
  refine L_run hw hr (fun r w' H1 q1 q2 q3 q4 => ?_)
  have := kk r w' H1 q1 q2 q3 q4
  rw [kmul]
  exact this
theorem L_new {E : Ev} {p : Program} {e : Env} {s : State} {m : MethodId} {b : Nat} {n0 : String} {below : List Frame} {meth : Method} {c : Code} {w : Wd} {H : Heap} {k pc : Nat} {ls : Array Slot} {st : List Value} {Z : State → Prop} {idx ci : Nat}
    (hf : Fx E (mLw n0) p s m #[Value.ref b] meth c (oldS s)) (hw : Wo E (oldS s) s.heap w true H []) (hk : k + 1 ≤ 5000) (hci : ci < 9) (hkw : ckw ci) (hlk : Cond.classLink R_law idx (cC ci) ∈ gtbl) (hinst : Cond.instantiable (cC ci) (fT ci).length ∈ gtbl) (hini : Cond.initialized (cC ci) ∈ gtbl) (hN : wN w < 999) (hd : decode code pc = .ok (.new idx, 3))
    (kk : ∀ H1 : Heap, H1.size = H.size + 1 → (∀ q : Nat, q < H.size → H1[q]? = H[q]?) → Wo E (oldS s) s.heap (al w (ci + 10) 0) true H1 [] → W p E.1 e room_1 s m #[Value.ref b] below meth c H1 [] (k + 1) ((k + 1) * 1280) Z (F0 m (pc + 3) ls (.ref (lo E (wN w)) :: st))) : W p E.1 e room_1 s m #[Value.ref b] below meth c H [] k (k * 1280) Z (F0 m pc ls st) := by
  have hts := hf.2.2.2.2.2.2.2.1
  have hKn := hf.2.2.2.2.2.2.2.2.1.1 ci _ (ck_at hci)
  have hlen : (fT ci).length ≤ 1280 := by rcases n9 hci with rfl | rfl | rfl | rfl | rfl | rfl | rfl | rfl | rfl <;> decide
  refine W.newcK hf.1 hf.2.1 hf.2.2.2.2.2.1 (hts _ hlk) (hts _ hinst) (hts _ hini) rfl hd (by show k + 1 ≤ 600000; omega) (by show k * 1280 + (fT ci).length ≤ 7302250; omega) hKn.2.1 rfl fun H1 kC hkC e1 z1 o1 => ?_
  refine W.widen (k := k + 1) (n := (k + 1) * 1280) (Nat.le_refl _) (by omega) ?_
  have hz := hw.2.2.2 rfl
  have := kk H1 z1 o1 (hw.alloc (kd := ci + 10) (n := 0) (fun _ h => h) hN z1 o1 (by
    rw [cE_o (al_K w _ _)]
    refine ⟨_, ck_at hci, (u_born (cY ci) hts hkw hKn hkC e1 (ck_ty hci)).to (fun j hj => ?_)⟩
    have hov : vp_V (oV E (al w (ci + 10) 0) ci (wN w)) j = fv E (al w (ci + 10) 0) (wN w) ((fT ci).getD j 0) j := by
      rw [vp_V, List.getD_eq_getElem?_getD, oV_at hj]
      rfl
    rw [ck_df ci hci j hj]
    refine Eq.trans ?_ hov.symm
    rw [fv, al_I, al_R]
    rfl))
  show W p E.1 e room_1 s m #[Value.ref b] below meth c H1 [] (k + 1) ((k + 1) * 1280) _ (F0 m (pc + 3) ls (.ref H.size :: st))
  rw [hz]
  exact this
/-- the other world stays -/
theorem Wo_other {E E' : Ev} {s : State} {H H1 : Heap} {w v : Wd} {g : Bool} (hv : Wo E' (oldS s) s.heap v false H []) (hS : va_S (oldS s) s.heap H1 []) (sep : ∀ a, a < wN w → ∀ b, b < wN v → lo E a ≠ lo E' b) (hk : ∀ q : Nat, q < H.size → ¬ AA E w H.size q → H1[q]? = H[q]?) : Wo E' (oldS s) s.heap v false H1 [] := by
  refine ⟨hv.1.kept (fun i x hx => ?_), hv.2.1, hS, fun q => by cases q⟩
  have hlt := (hv.1 i x hx).lt
  refine hk x.1 hlt (fun z => ?_)
  have hi : i < wN v := by
    have := (List.getElem?_eq_some_iff.mp hx).1
    rw [ws_len] at this
    exact this
  rw [ws_at hi] at hx
  cases hx
  rcases z with ⟨j, e, hj⟩ | z
  · have hj' : j < wN w := by
      have := (List.getElem?_eq_some_iff.mp hj).1
      rw [ws_len] at this
      exact this
    rw [ws_at hj'] at hj
    have := congrArg Prod.fst (Option.some.inj hj)
    exact sep j hj' i hi this
  · exact Nat.not_lt.mpr z hlt
