/-! all items in the model -/
def cMw (x i : Nat) : Prop := cMt x i ∨ (x = 0 ∧ (i = 13 ∨ i = 14))
theorem Fr.tw {w w' : Wd} (h : Fr cMt w w') : Fr cMw w w' := h.mono (fun _ _ q => Or.inl q)
def PoY (w : Wd) (r : Nat ⊕ (Nat × Cl)) (q : Int32 × Wd) : Prop := Sum.elim (fun f => q.1 = -6 ∧ ∃ u, Fr cMw w u ∧ wI u 0 14 = nI f ∧ Kp (wI w 14) u ∧ q.2 = sI u 11 6 (wI u 11 6 + 1)) (fun z => q.1 = nI z.1 ∧ Fr cMw w q.2 ∧ wI q.2 0 14 = -1 ∧ IsM q.2 z.2) r
theorem X8_stop {w v : Wd} {n f : Nat} (hm : ShM w) (hf : Fr cMw w v) (h25 : wI v 0 25 = nI f) (x y : Int32) : Wp (it (fX8_wardrobe_L39_body 0 y) (n + 1) (x, 0, v)) (PoY w (.inl f)) := by
  have hv := hf.shm hm
  obtain ⟨e1, e2, e3⟩ := hv.a14
  refine it_W ?_
  unfold fX8_wardrobe_L39_body
  dsimp only
  rw [if_pos rfl]
  refine Wp_wr ?_
  have hf1 : Fr cMw w (sI v 0 14 (wI v 0 25)) := hf.sI _ (Or.inr ⟨rfl, Or.inr rfl⟩)
  have hv1 := hf1.shm hm
  rw [chk_t hv.O, bnd_e, chk_t hv1.O]
  have e1' : wR (sI v 0 14 (wI v 0 25)) 0 20 = some 14 := e1
  rw [e1', ob_s]
  refine Wp_c (X8_again hv1 (t := 14) (by decide) e2 e3) (fun u hu => ?_)
  have hf2 : Fr cMw w u := hf1.trans (hu.1.mono (fun a i q => by unfold cM at q; unfold cMw cMt; omega))
  have hu1 := hf2.shm hm
  have k14 : wI (sI v 0 14 (wI v 0 25)) 14 = wI w 14 := funext fun i => hf1.at (by unfold cMw cMt; omega)
  have hk := hu.2
  rw [k14] at hk
  rw [chk_t hu1.O, X8_no hu1 (c := -6) (k := 6) rfl (by decide), ob_s]
  refine Wp_of rfl ⟨rfl, u, hf2, ?_, hk, rfl⟩
  rw [hu.1.at (by unfold cM; omega), wI_e]
  exact h25
theorem X8_loop {w : Wd} {s : Nat} {T : Tx} (hm : ShM w) : ∀ (n p k N : Nat) (D : Cl) (v : Wd), T.1 < p + n → n + 2 ≤ N → Fr cMw w v → RdM v s T D p → Wp (it (fX8_wardrobe_L39_body 0 (nI s)) N (nI k, 1, v)) (PoY w (outS T n p D k))
  | 0, p, k, N, D, v, h1, _, _, hr => absurd hr.2.2.2.2.2 (by omega)
  | n + 1, p, k, 0, D, v, _, h2, _, _ => absurd h2 (by omega)
  | n + 1, p, k, 1, D, v, _, h2, _, _ => absurd h2 (by omega)
  | n + 1, p, k, N + 2, D, v, h1, h2, hf, hr => by
    have hT := hr.l
    have hp := hr.2.2.2.2.2
    refine it_W ?_
    generalize hII : (fun t : Int32 × Int32 × Wd => Wp (it (fX8_wardrobe_L39_body 0 (nI s)) (N + 1) t) (PoY w (outS T (n + 1) p D k))) = I
    unfold fX8_wardrobe_L39_body
    dsimp only
    rw [if_neg (show ¬ (1 : Int32) = 0 by decide), chk_t hr.1.1.O]
    refine Wp_c (X8_item hr) (fun q hq => ?_)
    obtain ⟨q1, q2⟩ := hq
    cases e : rdS T D p with
    | inl f =>
      rw [e] at q2
      obtain ⟨q3, q4⟩ := q2
      unfold fX8_wardrobe_b58 fX8_wardrobe_b83
      rw [if_pos q3, if_pos q3, if_pos q3, Wp_l, q3]
      subst hII
      dsimp only
      rw [out_l e]
      exact X8_stop hm (hf.trans q1.tw) q4 _ _
    | inr z =>
      rw [e] at q2
      obtain ⟨q3, q4, q5⟩ := q2
      obtain ⟨z1, z2, z3, z4⟩ := rd_ok e
      have hf2 : Fr cMw w q.2 := hf.trans q1.tw
      have hr2 : RdM q.2 s T (teC z.2.1 D z.2.2) z.1 := by
        refine ⟨⟨q1.shm hr.1.1, hr.1.2.1, ?_⟩, q4, hr.2.2.1.fr q1 (by unfold cMt; omega), q5, CI_teC hr.2.2.2.2.1 z1 z4, z3⟩
        rw [q1.at (by unfold cMt; omega)]; exact hr.1.2.2
      obtain ⟨f1, f2, f3⟩ := hr2.1.1.a2
      obtain ⟨b1, b2⟩ := inb8 hr2.1.2.1
      have n1 : ¬ q.1 = 0 := by rw [q3]; decide
      unfold fX8_wardrobe_b58 fX8_wardrobe_b83
      simp only [if_neg n1, chk_t hr2.1.1.O, f1, ob_s, chk_t f2, f3, chk_t b1, b2, hr2.2.2.1.1.2, q4, nI_eq_iff (show z.1 < 2147483648 by omega) (show T.1 < 2147483648 by omega), nI_1, X8_is hr2 (c := 59) (by decide), bnd_e]
      by_cases e1 : T.1 ≤ z.1
      · rw [if_pos (show z.1 = T.1 by omega), out_r e, if_pos e1]
        refine Wp_wr (Wp_of rfl ⟨rfl, hf2.sI _ (Or.inr ⟨rfl, Or.inr rfl⟩), wI_e _ _ _ _, ?_⟩)
        exact q5.fr (S := fun a i => a = 0 ∧ i = 14) (Fr_sI _ ⟨rfl, rfl⟩) (fun a i t => by omega)
      · rw [if_neg (show ¬ z.1 = T.1 by omega)]
        cases e2 : atB T z.1 59 with
        | false =>
          simp only [if_neg Bool.false_ne_true, Wp_l]
          subst hII
          dsimp only
          rw [out_r e, if_neg e1, e2, if_neg Bool.false_ne_true]
          exact X8_stop hm hf2 q4 _ _
        | true =>
          have hat := atB_iff.mp e2
          simp only [if_true, Wp_l]
          subst hII
          dsimp only
          rw [out_r e, if_neg e1, e2, if_pos rfl]
          exact X8_loop hm n (z.1 + 1) (k + 1) (N + 1) _ _ (by omega) (by omega) (hf2.sI _ (Or.inl (Or.inr (Or.inr (Or.inr ⟨rfl, by omega⟩))))) (hr2.go (Fr_sI _ (Or.inl ⟨rfl, rfl⟩)) (wI_e _ _ _ _) hat.1)
/-! both -/
def cXw (a i : Nat) : Prop := cXx a i ∨ (a = 0 ∧ i = 10)
def cMy (x i : Nat) : Prop := cMx x i ∨ (x = 0 ∧ i = 14)
theorem RelC.wr {C C' : Cl} {x m x' m' : Wd} (h : RelC C x m) (hs : ShX x') (hL : wL x' = wL x) (hf : ∀ a i, ¬ cXw a i → wI x' a i = wI x a i) (hx : IsX x' 3 C') (hg : Fr cMy m m') (hxm : IsM m' C') (hI : CI C') (hle : cG C ≤ cG C') (h10 : wI x' 0 10 = wI m' 0 14) : RelC C' x' m' := by
  obtain ⟨⟨r1, r2, r3, r4, r5⟩, r6, r7, r8, r9, r10⟩ := h
  refine ⟨⟨hs, hg.shm r2, hI, hx, hxm⟩, ?_, fun s h8 => ?_, fun i h1 h2 => ?_, ?_, ?_⟩
  · unfold ImE
    rw [hf 0 9 (by unfold cXw cXx; omega), hg.at (by unfold cMy cMx; omega)]
    rcases r6 with r6 | ⟨r6, D, v, q1, q2, q3, q4⟩
    · exact Or.inl r6
    · refine Or.inr ⟨r6, D, v, q1, ?_, ?_, q4⟩
      · have hP : cP D ≤ 6 := q1.1.1
        have hG : cG D ≤ 8 := q1.1.2
        refine ⟨⟨?_, ?_, ?_, ?_⟩, fun q hq => ?_, fun j hj => ?_⟩
        · rw [hf _ _ (by unfold cXw cXx; omega)]; exact q2.1.1
        · rw [hf _ _ (by unfold cXw cXx; omega)]; exact q2.1.2.1
        · rw [hf _ _ (by unfold cXw cXx; omega)]; exact q2.1.2.2.1
        · rw [hf _ _ (by unfold cXw cXx; omega)]; exact q2.1.2.2.2
        · obtain ⟨h1, h2⟩ := q2.2.1 q hq
          refine ⟨?_, fun i hi => ?_⟩
          · rw [hf _ _ (by unfold cXw cXx pA; omega)]; exact h1
          · rw [hf _ _ (by unfold cXw cXx pA; omega)]; exact h2 i hi
        · obtain ⟨⟨h1, h2, h3⟩, h4⟩ := q2.2.2 j hj
          refine ⟨⟨?_, ?_, ?_⟩, fun i hi => ⟨?_, ?_⟩⟩
          · rw [hf _ _ (by unfold cXw cXx gA; omega)]; exact h1
          · rw [hf _ _ (by unfold cXw cXx gA; omega)]; exact h2
          · rw [hf _ _ (by unfold cXw cXx gA; omega)]; exact h3
          · rw [hf _ _ (by unfold cXw cXx gA; omega)]; exact (h4 i hi).1
          · rw [hf _ _ (by unfold cXw cXx gA; omega)]; exact (h4 i hi).2
      · have e : wI m' 13 = wI m 13 := funext fun i => hg.at (by unfold cMy cMx; omega)
        rw [e]; exact q3
  · obtain ⟨s1, s2⟩ := r7 s h8
    unfold ShE
    rw [hf _ _ (by unfold cXw cXx; omega), hf _ _ (by unfold cXw cXx; omega), hL, hg.L, hg.at (by unfold cMy cMx; omega), hg.at (by unfold cMy cMx; omega)]
    refine ⟨s1, ?_⟩
    rcases s2 with s2 | ⟨g, s2, s3⟩ | s2
    · exact Or.inl s2
    · exact Or.inr (Or.inl ⟨g, by omega, s3⟩)
    · exact Or.inr (Or.inr s2)
  · rw [hf _ _ (by unfold cXw cXx; omega), hg.at (by unfold cMy cMx; omega)]
    exact r8 i h1 h2
  · exact h10
  · obtain ⟨t, t1, t2, t3, t4⟩ := r10
    refine ⟨t, t1, ?_, ?_, fun i h1 h2 => ?_⟩
    · rw [hf _ _ (by unfold cXw cXx; omega)]; exact t2
    · rw [hg.at (by unfold cMy cMx; omega)]; exact t3
    · rw [hf _ _ (by unfold cXw cXx; omega), hg.at (by unfold cMy cMx; omega)]; exact t4 i h1 h2
theorem nd_f {T : Tx} {p lo cnt f : Nat} (h : ndS T p lo cnt = .inl f) : f = p := by
  unfold ndS at h
  split at h
  · split at h
    · split at h
      · cases h
      · cases h; rfl
    · split at h
      · cases h
      · cases h; rfl
  · cases h; rfl
theorem nmS_f {T : Tx} {p lo cnt f : Nat} (h : nmS T p lo cnt = .inl f) : f ≤ p + 1 := by
  rw [nm_nd] at h
  split at h
  · have := nd_f h
    omega
  · cases h
    exact Nat.le_succ _
theorem sq_f {T : Tx} {D : Cl} {c p : Nat} (hp : p ≤ T.1) : ∀ n f, sqS T D c p n = .inl f → f ≤ T.1 + 1
  | 0, f, h => by cases h
  | n + 1, f, h => by
    cases e : sqS T D c p n with
    | inl g =>
      have := sq_fin e (Nat.le_succ n)
      rw [this] at h
      cases h
      exact sq_f hp n _ e
    | inr y =>
      have hy := (sq_rg hp n y e).1.2
      rw [sq_s e] at h
      cases e2 : nmS T y.1 (loC c n) (ctC D c n) with
      | inl g =>
        rw [e2] at h
        cases h
        have := nmS_f e2
        omega
      | inr u => rw [e2] at h; cases h
theorem rd_f {T : Tx} {D : Cl} {p f : Nat} (hp : p ≤ T.1) (h : rdS T D p = .inl f) : f ≤ T.1 + 8 := by
  cases e : wdS T p with
  | inl g =>
    rw [rd_l e] at h
    cases h
    unfold wdS at e
    by_cases e1 : cand T p = 8
    · rw [if_pos e1] at e
      cases e
      omega
    · rw [if_neg e1] at e
      by_cases e2 : mtS T p (cand T p) < lnN (cand T p)
      · rw [if_pos e2] at e
        cases e
        have hc : cand T p < 8 := by have := cand_le T p; omega
        have := (ln_le _ hc).1
        omega
      · rw [if_neg e2] at e; cases e
  | inr c =>
    obtain ⟨h1, h2, -, -⟩ := wd_ok e
    by_cases hf : (c = 0 ∧ ¬ cP D < 6) ∨ (c = 1 ∧ ¬ cG D < 8)
    · rw [rd_full e hf] at h
      cases h
      omega
    · rw [rd_sq e hf] at h
      cases e2 : sqS T D c (p + lnN c) (nnC c) with
      | inl g =>
        rw [e2] at h
        cases h
        have := sq_f h2 _ _ e2
        omega
      | inr y => rw [e2] at h; cases h
theorem out_f' {T : Tx} : ∀ n p D k f, p ≤ T.1 → outS T n p D k = .inl f → f ≤ T.1 + 8
  | 0, p, D, k, f, hp, h => by
    cases h
    omega
  | n + 1, p, D, k, f, hp, h => by
    cases e : rdS T D p with
    | inl g =>
      rw [out_l e] at h
      cases h
      exact rd_f hp e
    | inr y =>
      obtain ⟨h1, h2, h3, h4⟩ := rd_ok e
      rw [out_r e] at h
      by_cases e1 : T.1 ≤ y.1
      · rw [if_pos e1] at h; cases h
      · rw [if_neg e1] at h
        cases e2 : atB T y.1 59 with
        | false =>
          rw [e2, if_neg Bool.false_ne_true] at h
          cases h
          omega
        | true =>
          rw [e2, if_pos rfl] at h
          exact out_f' n _ _ _ f (atB_iff.mp e2).1 h
def XW (Q : Nat → Nat → Prop) (x u : Wd) : Prop := ShX u ∧ wL u = wL x ∧ ∀ a i, ¬ Q a i → wI u a i = wI x a i
theorem XW.fr {Q S : Nat → Nat → Prop} {x u u' : Wd} (h : XW Q x u) (hf : Fr S u u') (hS : ∀ a i, S a i → Q a i) : XW Q x u' :=
  ⟨hf.shx h.1, hf.L.trans h.2.1, fun a i q => (hf.at (fun r => q (hS a i r))).trans (h.2.2 a i q)⟩
theorem XW.mono {Q S : Nat → Nat → Prop} {x u : Wd} (h : XW Q x u) (hS : ∀ a i, Q a i → S a i) : XW S x u :=
  ⟨h.1, h.2.1, fun a i q => h.2.2 a i (fun r => q (hS a i r))⟩
def cXv (a i : Nat) : Prop := cXr a i ∨ (a = 0 ∧ i = 10)
theorem cXv_w {a i : Nat} (h : cXv a i) : cXw a i := by
  unfold cXv cXr cCl at h
  unfold cXw cXx
  omega
theorem C_wardrobe {C : Cl} {x m : Wd} (h : RelC C x m) (v : Int32) : E2 (fX7_wardrobe 0 v x) (fX8_wardrobe 0 v m) := by
  obtain ⟨⟨hs, hm, hI, hx, hxm⟩, -⟩ := id h
  obtain ⟨t1, t2, t3, t4, t5, t6, t7, t8, t9⟩ := hs.T
  have a0 := hm.O
  unfold fX7_wardrobe fX8_wardrobe
  rcases rowT h v with ⟨s, k, l, h8, rfl, hrow, w1, w2⟩ | ⟨c, j, w1, w2, c0, c1, c2, c3, c4⟩
  · obtain ⟨⟨hk, hl⟩, g1, g2, g3, g4, g5⟩ := hrow
    rw [chk_t t1, w1, ob_s, chk_t a0, w2, ob_s]
    dsimp only
    rw [if_pos rfl, if_pos (show (0 : Int32) ≤ 0 by decide), chk_t t1, t5, ob_s, t4, ob_s, chk_t a0, chk_t (hs.cl (b := 43) (Or.inr (Or.inl rfl))).B.1]
    have hT : ∃ T : Tx, TX x s T.1 T.2 ∧ TM m s T.1 T.2 := ⟨(l, fun i => (wL x (136 + 2 * s) i).toInt32), ⟨⟨hl, g3⟩, fun i _ => rfl⟩, ⟨⟨hl, g4⟩, fun i hi => congrArg Int64.toInt32 (g5 i hi).symm⟩⟩
    obtain ⟨T, hTX, hTM⟩ := hT
    have hT160 : T.1 ≤ 160 := hTX.1.1
    have c43 := hs.cl (b := 43) (Or.inr (Or.inl rfl))
    have c3 := hs.cl (b := 3) (Or.inl rfl)
    have xside : Wp (ob (fX0_take 43 3 x) (fun q11 => chk (isO q11 0 7) (ob (wR q11 0 6) (fun o14 => ob (wR q11 0 0) (fun o16 => chk (isA q11 o16 4) (chk (inb (nI s) (wn q11 o16)) (ob (wR q11 o16 (nI s).toNatClampNeg) (fun o20 => ob (wR q11 0 3) (fun o22 => chk (isO q11 o14 5) (ob (fX5_read o14 o20 o22 q11) (fun q25 => chk (isO q25.2 0 7) (ob (wR q25.2 0 6) (fun o28 => chk (isO q25.2 o28 5) (bnd (sI q25.2 0 10 (wI q25.2 o28 0)) (fun w31 => chk (isO w31 0 7) (if (wI w31 0 10) = (-1) then (ob (wR w31 0 2) (fun o35 => ob (wR w31 0 3) (fun o37 => chk (isO w31 o35 0) (ob (fX0_take o35 o37 w31) (fun q40 => some (q25.1, q40)))))) else (ob (fX7_refuse 0 (-6) w31) (fun q42 => some (q42.1, q42.2))))))))))))))))))) (fun q => Sum.elim (fun f => q.1 = -6 ∧ ∃ u, XW cXv x u ∧ wI u 0 10 = nI f ∧ q.2 = sI u 2 6 (wI u 2 6 + 1)) (fun z => q.1 = nI z.1 ∧ XW cXw x q.2 ∧ wI q.2 0 10 = -1 ∧ IsX q.2 3 z.2) (outS T 200 0 C 0)) := by
      refine Wp_c (X0_take c43 c3 hx hI (by omega)) (fun u hu => ?_)
      have hsu := hu.1.shx hs
      obtain ⟨u1, u2, u3, u4, u5, u6, u7, u8, u9⟩ := hsu.T
      obtain ⟨r1, r2, -⟩ := hsu.Rd
      obtain ⟨s1, s2, -⟩ := hsu.S h8
      obtain ⟨b1, b2⟩ := inb8 h8
      have htu : TX u s T.1 T.2 := hTX.fr hu.1 (by unfold cCl; omega)
      simp only [chk_t u1, r1, ob_s, u2, chk_t u6, u7, chk_t b1, b2, s1, u5, chk_t r2]
      refine Wp_c (X5_read hsu h8 htu hu.2 hI) (fun q hq => ?_)
      obtain ⟨q1, q2, q3, q4⟩ := hq
      obtain ⟨v1, v2, v3, v4, v5, v6, v7, v8, v9⟩ := q1.T
      obtain ⟨p1, p2, -⟩ := q1.Rd
      have hXW : XW cXv x q.2 := ⟨q1, q2.trans hu.1.L, fun a i t => by
        rw [q3 a i (fun r => t (by unfold cXv; exact Or.inl r)), hu.1.at (fun r => t (by unfold cXv cXr; exact Or.inl (Or.inr (Or.inr r))))]⟩
      have hXW1 : XW cXv x (sI q.2 0 10 (wI q.2 126 0)) := hXW.fr (S := fun a i => a = 0 ∧ i = 10) (Fr_sI _ ⟨rfl, rfl⟩) (fun a i r => Or.inr r)
      have e10 : wI (sI q.2 0 10 (wI q.2 126 0)) 0 10 = wI q.2 126 0 := wI_e _ _ _ _
      obtain ⟨y1, y2, y3, y4, y5, y6, y7, y8, y9⟩ := hXW1.1.T
      rw [chk_t v1, p1, ob_s, chk_t p2, bnd_e, chk_t y1, e10]
      cases eo : outS T 200 0 C 0 with
      | inl f =>
        rw [eo] at q4
        have q4 : wI q.2 126 0 = nI f := q4
        have hne : ¬ wI q.2 126 0 = -1 := by
          rw [q4]
          have hf160 := out_f' 200 0 C 0 f (Nat.zero_le _) eo
          exact nI_m1 (by omega)
        rw [if_neg hne, ob_eta, X7_refuse hXW1.1 (c := -6) (k := 6) rfl (by decide)]
        exact Wp_of rfl ⟨rfl, _, hXW1, e10.trans q4, rfl⟩
      | inr z =>
        rw [eo] at q4
        obtain ⟨q4, q5, q6⟩ := q4
        obtain ⟨o1, o2⟩ := out_ok 200 0 C 0 z hI eo
        rw [if_pos q5, y4, ob_s, y5, ob_s, chk_t (hXW1.1.cl (b := 3) (Or.inl rfl)).B.1]
        have hx6 : IsX (sI q.2 0 10 (wI q.2 126 0)) 43 z.2 := q6.fr o1 (S := fun a i => a = 0 ∧ i = 10) (Fr_sI _ ⟨rfl, rfl⟩) (fun a i r => by omega)
        refine Wp_c (X0_take (hXW1.1.cl (b := 3) (Or.inl rfl)) (hXW1.1.cl (b := 43) (Or.inr (Or.inl rfl))) hx6 o1 (by omega)) (fun u2 hu2 => ?_)
        refine Wp_of rfl ⟨q4, (hXW1.mono (fun _ _ r => cXv_w r)).fr hu2.1 (fun a i r => Or.inl (cXx_3 r)), ?_, hu2.2⟩
        rw [hu2.1.at (by unfold cCl; omega)]
        exact e10.trans q5
    obtain ⟨e1, e2, e3⟩ := hm.a14
    have mside : Wp (ob (wR m 0 20) (fun o6 => ob (fX8_keep 0 o6 m) (fun q8 => chk (isO q8 0 8) (bnd (sI q8 0 24 (nI s)) (fun w11 => chk (isO w11 0 8) (bnd (sI w11 0 25 0) (fun w14 => fX8_wardrobe_L39 0 (nI s) (0, 1, w14)))))))) (fun q => ∃ w, Fr cMy m w ∧ Kp (wI w 14) m ∧ PoY w (outS T 200 0 C 0) q) := by
      rw [e1, ob_s]
      refine Wp_c (X8_keep hm (t := 14) (by decide) e2 e3) (fun u hu => ?_)
      have hmu := hu.1.shm hm
      rw [chk_t hmu.O, bnd_e, cO_s, chk_t hmu.O, bnd_e]
      have hf1 : Fr (fun a i => a = 14 ∨ (a = 0 ∧ (i = 24 ∨ i = 25))) m (sI (sI u 0 24 (nI s)) 0 25 0) := ((hu.1.mono (fun a i r => Or.inl r)).sI _ (Or.inr ⟨rfl, Or.inl rfl⟩)).sI _ (Or.inr ⟨rfl, Or.inr rfl⟩)
      have e14 : wI (sI (sI u 0 24 (nI s)) 0 25 0) 14 = wI u 14 := by
        rw [wI_ne (by decide), wI_ne (by decide)]
      have hr : RdM (sI (sI u 0 24 (nI s)) 0 25 0) s T C 0 := by
        refine ⟨⟨hf1.shm hm, h8, ?_⟩, ?_, hTM.fr hf1 (by omega), hxm.fr hf1 (fun a i r => by omega), hI, Nat.zero_le _⟩
        · rw [wI_n (by omega), wI_e]
        · rw [wI_e]; rfl
      unfold fX8_wardrobe_L39
      refine Wp_m (X8_loop (hf1.shm hm) 200 0 0 FU C _ (by omega) (by show 202 ≤ 100000; decide) (Fr.refl _) hr) (fun q hq => ⟨_, hf1.mono (fun a i r => by unfold cMy cMx; omega), ?_, hq⟩)
      rw [e14]; exact hu.2
    cases eo : outS T 200 0 C 0 with
    | inl f =>
      rw [eo] at xside mside
      refine E2_of (r := -6) (X := fun y => ∃ u, XW cXv x u ∧ wI u 0 10 = nI f ∧ y = sI u 2 6 (wI u 2 6 + 1)) (M := fun y => ∃ w, Fr cMy m w ∧ Kp (wI w 14) m ∧ ∃ u, Fr cMw w u ∧ wI u 0 14 = nI f ∧ Kp (wI w 14) u ∧ y = sI u 11 6 (wI u 11 6 + 1)) (Wp_m xside (fun q hq => hq)) (Wp_m mside (fun q hq => ?_)) (fun y y' hy hy' => ?_)
      · obtain ⟨w, p1, p2, p3, p4⟩ := hq
        exact ⟨p3, w, p1, p2, p4⟩
      · obtain ⟨u, x1, x2, rfl⟩ := hy
        obtain ⟨w, m1, m2, u', m3, m4, m5, rfl⟩ := hy'
        have hfm : Fr cMy m u' := m1.trans (m3.mono (fun a i r => by unfold cMw cMt at r; unfold cMy cMx; omega))
        have hxu : IsX u 3 C := hx.ag hI (fun a i r => x1.2.2 a i (by unfold cXv cXr cCl; omega))
        have := RelC.wr h x1.1 x1.2.1 (fun a i r => x1.2.2 a i (fun t => r (cXv_w t))) hxu hfm (m2.isM m5 hI hxm) hI (Nat.le_refl _) (x2.trans m4.symm)
        exact this.no (k := 6) (by decide) (by decide)
    | inr z =>
      rw [eo] at xside mside
      obtain ⟨o1, o2⟩ := out_ok 200 0 C 0 z hI eo
      refine E2_of (r := nI z.1) (X := fun y => XW cXw x y ∧ wI y 0 10 = -1 ∧ IsX y 3 z.2) (M := fun y => ∃ w, Fr cMy m w ∧ Fr cMw w y ∧ wI y 0 14 = -1 ∧ IsM y z.2) (Wp_m xside (fun q hq => hq)) (Wp_m mside (fun q hq => ?_)) (fun y y' hy hy' => ?_)
      · obtain ⟨w, p1, p2, p3, p4, p5, p6⟩ := hq
        exact ⟨p3, w, p1, p4, p5, p6⟩
      · obtain ⟨x1, x2, x3⟩ := hy
        obtain ⟨w, m1, m2, m3, m4⟩ := hy'
        have hfm : Fr cMy m y' := m1.trans (m2.mono (fun a i r => by unfold cMw cMt at r; unfold cMy cMx; omega))
        exact ⟨z.2, RelC.wr h x1.1 x1.2.1 x1.2.2 x3 hfm m4 o1 o2 (x2.trans m3.symm)⟩
  · rw [chk_t t1, w1, ob_s, chk_t a0, w2, ob_s]
    dsimp only
    rw [if_neg c0, if_neg c1, chk_t t1, chk_t a0, ob_eta, ob_eta]
    exact h.r c2 c3 c4
