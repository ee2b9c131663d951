/-! the law from its entry -/
theorem Wo_00 {E : Ev} {s : State} {H : Heap} (hS : va_S (oldS s) s.heap H []) (h0 : H.size = lo E 0) : Wo E (oldS s) s.heap w00 true H [] := by
  have e : ws E w00 = [] := rfl
  refine ⟨?_, ?_, hS, fun _ => h0⟩
  · rw [e]
    intro k q h
    rw [List.getElem?_nil] at h
    cases h
  · rw [e]
    refine ⟨fun i j p q h _ _ => ?_, fun k q h => ?_⟩
    · rw [List.getElem?_nil] at h
      cases h
    · rw [List.getElem?_nil] at h
      cases h
theorem Wo.quiet {E : Ev} {s : State} {H : Heap} {w : Wd} (h : Wo E (oldS s) s.heap w true H []) : Wo E (oldS s) s.heap w false H [] := ⟨h.1, h.2.1, h.2.2.1, fun q => by cases q⟩
theorem Wo.push {E : Ev} {s : State} {H H1 : Heap} {w : Wd} (h : Wo E (oldS s) s.heap w false H []) (hS : va_S (oldS s) s.heap H1 []) (o : ∀ q : Nat, q < H.size → H1[q]? = H[q]?) : Wo E (oldS s) s.heap w false H1 [] :=
  ⟨h.1.kept (fun i x hx => o x.1 (h.1 i x hx).lt), h.2.1, hS, fun q => by cases q⟩
theorem QV_e {q w : Wd} {v : Option Value} (h : QV q v w) : v = none ∧ w = q := h
theorem whole_start {p : Program} {e : Env} {s : State} {m : MethodId} {below : List Frame} {meth : Method} {c : Code} (l : Launch) (hflags : l.flags = flags0) {b L : Nat} {xs : Nat → Int32} (hL : L ≤ 3072) (C0 : lw_At p s m meth c b L xs) : W p l e room_1 s m #[Value.ref b] below meth c s.heap [] 0 0 (lw_Z below #[Value.ref b] s) (entryFrame m ([Value.ref b] : List Value).toArray 4) := by
  obtain ⟨hx, hb, hr, hml, hown, hts, hX, hbl, hlocks, hgv⟩ := id C0
  obtain ⟨G, cl, hK⟩ := L_cls hts
  obtain ⟨sa, hST⟩ := L_sta hts (flat_of_before _ hgv)
  have hl := lv_entry ([.ref b]) (n := 4) (Nat.le_of_ble_eq_true rfl)
  rw [lg_entry_eq]
  generalize (lg_sl ([.ref b]) ++ List.replicate (4 - (lg_sl ([.ref b])).length) Slot.unset).toArray = ls at hl ⊢
  have hl : lv_has ls 4 [(0, .ref b)] := hl
  have F1 := Fx_law (E := (l, G, cl, s.heap.size, sa)) C0 (hK l _ sa) (hST l G cl _)
  have hw0 : Wo (l, G, cl, s.heap.size, sa) (oldS s) s.heap w00 true s.heap [] := Wo_00 va_S.rf lo_0.symm
  have key : W p l e room_1 s m #[Value.ref b] below meth c s.heap [] 0 (0 * 1280) (lw_Z below #[Value.ref b] s) (F0 m 0 ls []) := by
    refine L_new (E := (l, G, cl, s.heap.size, sa)) (k := 0) (ci := 7) F1 hw0 (by decide) (by decide) kw_7 lk_cls7 ki_7 ti_RX7 (by decide) dL_law_0 (fun H1 z1 o1 hw1 => ?_)
    refine lv_dup hx hb dL_law_3 rfl ?_
    refine L_init (E := (l, G, cl, s.heap.size, sa)) (y := yX7_init) (bytes := cX7_init) (nl := 2) (w := wx1) (a := 0) F1 hw1 hl.1 ld_X7_init lk_X7_init (by show 8 ≤ 2000; decide) rfl (by show 0 + 1 + 150 ≤ 5000; decide) (Nat.le_of_ble_eq_true rfl) dL_law_4 (ctX7_init init_x0) (fun r w' H2 q1 hw2 z2 o2 => ?_)
    obtain ⟨g1, g2⟩ := QV_e q1
    subst g1
    rw [g2] at hw2
    have hx2 := hw2.quiet
    have hsz : H2.size = s.heap.size + 151 := by
      have := hw2.2.2.2 rfl
      rw [wx0_N, lo_a (by decide)] at this
      exact this
    show W p l e room_1 s m #[Value.ref b] below meth c H2 [] 151 (151 * 1280) (lw_Z below #[Value.ref b] s) (F0 m 7 ls [.ref (lo (l, G, cl, s.heap.size, sa) 0)])
    rw [lo_0]
    refine lv_astore_n (lv' := [(1, .ref s.heap.size), (0, .ref b)]) hx hb dL_law_7 rfl hl (by decide) rfl (fun ls hl => ?_)
    have F2 := Fx_law (E := (l, G, cl, H2.size, sa)) C0 (hK l _ sa) (hST l G cl _)
    have hv0 : Wo (l, G, cl, H2.size, sa) (oldS s) s.heap w00 true H2 [] := Wo_00 hw2.2.2.1 lo_0.symm
    refine L_new (E := (l, G, cl, H2.size, sa)) (k := 151) (ci := 8) F2 hv0 (by decide) (by decide) kw_8 lk_cls8 ki_8 ti_RX8 (by decide) dL_law_8 (fun H3 z3 o3 hv1 => ?_)
    have hx3 := hx2.push hv1.2.2.1 o3
    refine lv_dup hx hb dL_law_11 rfl ?_
    refine L_init (E := (l, G, cl, H2.size, sa)) (y := yX8_init) (bytes := cX8_init) (nl := 2) (w := wm1) (a := 0) F2 hv1 hl.1 ld_X8_init lk_X8_init (by show 6 ≤ 2000; decide) rfl (by show 151 + 1 + 18 ≤ 5000; decide) (Nat.le_of_ble_eq_true rfl) dL_law_12 (ctX8_init init_m0) (fun r w' H4 q1 hv2 z4 o4 => ?_)
    obtain ⟨g3, g4⟩ := QV_e q1
    subst g3
    rw [g4] at hv2
    have hx4 : Wo (l, G, cl, s.heap.size, sa) (oldS s) s.heap wx0 false H4 [] := Wo_other (g := false) (E := (l, G, cl, H2.size, sa)) (w := wm1) hx3 hv2.2.2.1 (fun a ha b' hb' => by
      have h1 : a < 1 := ha
      have h2 : b' < 151 := by rw [wx0_N] at hb'; exact hb'
      rw [lo_a (by omega), lo_a (by omega)]
      omega) o4
    show W p l e room_1 s m #[Value.ref b] below meth c H4 [] 170 (170 * 1280) (lw_Z below #[Value.ref b] s) (F0 m 15 ls [.ref (lo (l, G, cl, H2.size, sa) 0)])
    rw [lo_0]
    refine lv_astore_n (lv' := [(2, .ref H2.size), (1, .ref s.heap.size), (0, .ref b)]) hx hb dL_law_15 rfl hl (by decide) rfl (fun ls hl => ?_)
    refine lv_iconst (v := nI 0) hx hb dL_law_16 (by decide) ?_
    refine lv_istore_n (lv' := [(3, .int (nI 0)), (2, .ref H2.size), (1, .ref s.heap.size), (0, .ref b)]) hx hb dL_law_17 rfl hl (by decide) rfl (fun ls hl => ?_)
    have N := Rel.N Rel_begin
    exact law_loop (l := l) (G := G) (cl := cl) (bx := s.heap.size) (bm := H2.size) (sa := sa) ⟨C0, F1, F2, by omega, hL⟩ (L + 12) 0 (Nat.zero_le _) (Nat.le_refl _) H4 wx0 wm0 ⟨⟨hx4, N.1⟩, hv2.quiet, N.2⟩ Rel_begin ls hl
  rw [Nat.zero_mul] at key
  exact key
