/-! the law over two worlds -/
def LC (p : Program) (s : State) (m : MethodId) (meth : Method) (c : Code) (b L : Nat) (xs : Nat → Int32) (l : Launch) (G : va_G) (cl : Nat → ClassId) (bx bm : Nat) (sa : Nat → Nat) : Prop :=
  lw_At p s m meth c b L xs ∧ Fx (l, G, cl, bx, sa) (mLw meth.name) p s m #[Value.ref b] meth c (oldS s) ∧ Fx (l, G, cl, bm, sa) (mLw meth.name) p s m #[Value.ref b] meth c (oldS s) ∧ bx + 151 ≤ bm ∧ L ≤ 3072
def LI (s : State) (l : Launch) (G : va_G) (cl : Nat → ClassId) (bx bm : Nat) (sa : Nat → Nat) (H : Heap) (x w : Wd) : Prop :=
  (Wo (l, G, cl, bx, sa) (oldS s) s.heap x false H [] ∧ wN x = 151 ∧ isO x 0 7) ∧ (Wo (l, G, cl, bm, sa) (oldS s) s.heap w false H [] ∧ wN w = 19 ∧ isO w 0 8)
theorem lo_a {l : Launch} {G : va_G} {cl : Nat → ClassId} {bx : Nat} {sa : Nat → Nat} {a : Nat} (h : a < 1000) : lo (l, G, cl, bx, sa) a = bx + a := by
  unfold lo
  rw [if_pos h]
theorem lo_0 {l : Launch} {G : va_G} {cl : Nat → ClassId} {bx : Nat} {sa : Nat → Nat} : lo (l, G, cl, bx, sa) 0 = bx := lo_a (by decide)
theorem L_in {i L j : Nat} (hi : i + 6 ≤ L) (hL : L ≤ 3072) (hj : j < 6) : vp_in (nI i + nI j) L := by
  rw [nI_add]
  exact inb_nI (by omega) (by omega)
theorem Rel.N {x w : Wd} (h : Rel x w) : (wN x = 151 ∧ isO x 0 7) ∧ wN w = 19 ∧ isO w 0 8 := by
  obtain ⟨CC, hr⟩ := h
  exact ⟨⟨hr.1.1.1, hr.1.1.T.1⟩, hr.1.2.1.1, hr.1.2.1.O⟩
theorem L_x {p : Program} {e : Env} {s : State} {m : MethodId} {below : List Frame} {meth : Method} {c : Code} {b L : Nat} {xs : Nat → Int32} {l : Launch} {G : va_G} {cl : Nat → ClassId} {bx bm : Nat} {sa : Nat → Nat} (C : LC p s m meth c b L xs l G cl bx bm sa) {H : Heap} {x w x' : Wd} (hI : LI s l G cl bx bm sa H x w) (hN : wN x' = 151 ∧ isO x' 0 7) {ls : Array Slot} (hl : ls.size = 4) {Z : State → Prop} {M' : Mi} {d' : Nat × Nat × Bool} {Q1 : Option Value → Wd → Prop} {idx n pc : Nat} (As : List Value) {st stk : List Value} (rv : Value)
    (hmd : MDv M' n) (hlk : Cond.methodLink R_law idx M'.1 ∈ gtbl) (hC : cC 7 = M'.1.cls) (hn : As.length = n) (hR : d'.1 ≤ 2000) (hm0 : d'.2.1 = 0) (hg : d'.2.2 = false) (hst : (st.map fun v => v.category).sum ≤ 8) (hAs : As.map (mv (l, G, cl, bx, sa)) = As) (hstk : stk = As.reverse ++ .ref bx :: st) (hd : decode code pc = .ok (.invokevirtual idx, 3)) (hM : CT (l, G, cl, bx, sa) M' d' (.ref 0 :: As) x Q1) (hQ : ∀ v u, Q1 v u → v = some rv ∧ u = x') (hrv : mv (l, G, cl, bx, sa) rv = rv)
    (kk : ∀ H1 : Heap, LI s l G cl bx bm sa H1 x' w → W p l e room_1 s m #[Value.ref b] below meth c H1 [] 170 (170 * 1280) Z (F0 m (pc + 3) ls (rv :: st))) : W p l e room_1 s m #[Value.ref b] below meth c H [] 170 (170 * 1280) Z (F0 m pc ls stk) := by
  refine L_callV (E := (l, G, cl, bx, sa)) (a := 0) (As := As) (st := st) C.2.1 hI.1.1 hl hmd hlk (by decide) hC hn hR hm0 hg (by decide) hst (by rw [hAs, lo_0]; exact hstk) hd hI.1.2.2 hM (fun r w' H1 q1 q2 q3 q4 => ?_)
  obtain ⟨rfl, rfl⟩ := hQ r w' q1
  have := kk H1 ⟨⟨q2, hN⟩, Wo_other (g := false) (E := (l, G, cl, bx, sa)) hI.2.1 q2.2.2.1 (fun a ha b' hb' => by
    have h1 := hI.1.2.1
    have h2 := hI.2.2.1
    have h3 := C.2.2.2.1
    rw [lo_a (by omega), lo_a (by omega)]
    omega) q4, hI.2.2⟩
  show W p l e room_1 s m #[Value.ref b] below meth c H1 [] 170 (170 * 1280) Z (F0 m (pc + 3) ls (mv (l, G, cl, bx, sa) rv :: st))
  rw [hrv]
  exact this
theorem L_m {p : Program} {e : Env} {s : State} {m : MethodId} {below : List Frame} {meth : Method} {c : Code} {b L : Nat} {xs : Nat → Int32} {l : Launch} {G : va_G} {cl : Nat → ClassId} {bx bm : Nat} {sa : Nat → Nat} (C : LC p s m meth c b L xs l G cl bx bm sa) {H : Heap} {x w w' : Wd} (hI : LI s l G cl bx bm sa H x w) (hN : wN w' = 19 ∧ isO w' 0 8) {ls : Array Slot} (hl : ls.size = 4) {Z : State → Prop} {M' : Mi} {d' : Nat × Nat × Bool} {Q1 : Option Value → Wd → Prop} {idx n pc : Nat} (As : List Value) {st stk : List Value} (rv : Value)
    (hmd : MDv M' n) (hlk : Cond.methodLink R_law idx M'.1 ∈ gtbl) (hC : cC 8 = M'.1.cls) (hn : As.length = n) (hR : d'.1 ≤ 2000) (hm0 : d'.2.1 = 0) (hg : d'.2.2 = false) (hst : (st.map fun v => v.category).sum ≤ 8) (hAs : As.map (mv (l, G, cl, bm, sa)) = As) (hstk : stk = As.reverse ++ .ref bm :: st) (hd : decode code pc = .ok (.invokevirtual idx, 3)) (hM : CT (l, G, cl, bm, sa) M' d' (.ref 0 :: As) w Q1) (hQ : ∀ v u, Q1 v u → v = some rv ∧ u = w') (hrv : mv (l, G, cl, bm, sa) rv = rv)
    (kk : ∀ H1 : Heap, LI s l G cl bx bm sa H1 x w' → W p l e room_1 s m #[Value.ref b] below meth c H1 [] 170 (170 * 1280) Z (F0 m (pc + 3) ls (rv :: st))) : W p l e room_1 s m #[Value.ref b] below meth c H [] 170 (170 * 1280) Z (F0 m pc ls stk) := by
  refine L_callV (E := (l, G, cl, bm, sa)) (a := 0) (As := As) (st := st) C.2.2.1 hI.2.1 hl hmd hlk (by decide) hC hn hR hm0 hg (by decide) hst (by rw [hAs, lo_0]; exact hstk) hd hI.2.2.2 hM (fun r w1 H1 q1 q2 q3 q4 => ?_)
  obtain ⟨rfl, rfl⟩ := hQ r w1 q1
  have := kk H1 ⟨⟨Wo_other (g := false) (E := (l, G, cl, bm, sa)) hI.1.1 q2.2.2.1 (fun a ha b' hb' => by
    have h1 := hI.1.2.1
    have h2 := hI.2.2.1
    have h3 := C.2.2.2.1
    rw [lo_a (by omega), lo_a (by omega)]
    omega) q4, hI.1.2⟩, q2, hN⟩
  show W p l e room_1 s m #[Value.ref b] below meth c H1 [] 170 (170 * 1280) Z (F0 m (pc + 3) ls (mv (l, G, cl, bm, sa) rv :: st))
  rw [hrv]
  exact this
abbrev lgY (a b : Int32) : Int64 := (a.toInt64 <<< ((32 : Int32).toInt64 &&& 63)) ||| (b.toInt64 &&& 4294967295)
