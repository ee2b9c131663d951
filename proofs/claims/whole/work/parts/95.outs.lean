/-! all items -/
noncomputable def outS (T : Tx) : Nat → Nat → Cl → Nat → Nat ⊕ (Nat × Cl)
  | 0, p, _, _ => .inl p
  | n + 1, p, D, k => match rdS T D p with
    | .inl f => .inl f
    | .inr z => if T.1 ≤ z.1 then .inr (k + 1, teC z.2.1 D z.2.2) else if atB T z.1 59 then outS T n (z.1 + 1) (teC z.2.1 D z.2.2) (k + 1) else .inl z.1
theorem out_l {T : Tx} {n p k f : Nat} {D : Cl} (h : rdS T D p = .inl f) : outS T (n + 1) p D k = .inl f := by
  unfold outS
  rw [h]
theorem out_r {T : Tx} {n p k : Nat} {D : Cl} {z : Nat × Nat × (Nat → Nat)} (h : rdS T D p = .inr z) : outS T (n + 1) p D k = if T.1 ≤ z.1 then .inr (k + 1, teC z.2.1 D z.2.2) else if atB T z.1 59 then outS T n (z.1 + 1) (teC z.2.1 D z.2.2) (k + 1) else .inl z.1 := by
  conv => lhs; unfold outS
  rw [h]
theorem te_G (c : Nat) (D : Cl) (vs : Nat → Nat) : cG D ≤ cG (teC c D vs) := by
  unfold teC
  by_cases e0 : c = 0
  · rw [if_pos e0]; exact Nat.le_refl _
  rw [if_neg e0]
  by_cases e1 : c = 1
  · rw [if_pos e1]; exact Nat.le_succ _
  rw [if_neg e1]
  by_cases e2 : c = 2
  · rw [if_pos e2]; exact Nat.le_refl _
  rw [if_neg e2]
  by_cases e3 : c = 3
  · rw [if_pos e3]; exact Nat.le_refl _
  rw [if_neg e3]
  by_cases e4 : c = 4
  · rw [if_pos e4]; exact Nat.le_refl _
  rw [if_neg e4]
  by_cases e5 : c = 5
  · rw [if_pos e5]; exact Nat.le_refl _
  rw [if_neg e5]
  by_cases e6 : c = 6
  · rw [if_pos e6]; exact Nat.le_refl _
  rw [if_neg e6, dayC_G]
  exact Nat.le_refl _
theorem out_ok {T : Tx} : ∀ n p D k z, CI D → outS T n p D k = .inr z → CI z.2 ∧ cG D ≤ cG z.2
  | 0, p, D, k, z, hI, h => by cases h
  | n + 1, p, D, k, z, hI, h => by
    cases e : rdS T D p with
    | inl f => rw [out_l e] at h; cases h
    | inr y =>
      obtain ⟨h1, h2, h3, h4⟩ := rd_ok e
      have hI' := CI_teC hI h1 h4
      have hg := te_G y.2.1 D y.2.2
      rw [out_r e] at h
      by_cases e1 : T.1 ≤ y.1
      · rw [if_pos e1] at h
        cases h
        exact ⟨hI', hg⟩
      · rw [if_neg e1] at h
        cases e2 : atB T y.1 59 with
        | false => rw [e2, if_neg Bool.false_ne_true] at h; cases h
        | true =>
          rw [e2, if_pos rfl] at h
          have := out_ok n _ _ _ z hI' h
          exact ⟨this.1, Nat.le_trans hg this.2⟩
theorem it_W {S R : Type} {f : S → Option (S ⊕ R)} {n : Nat} {s : S} {P : R → Prop} (h : Wp (f s) (lp (fun t => Wp (it f n t) P) P)) : Wp (it f (n + 1) s) P := by
  obtain ⟨a, e, h⟩ := h
  cases a with
  | inl t =>
    rw [it_l e]
    exact h
  | inr r =>
    refine ⟨r, ?_, h⟩
    unfold it
    rw [e]
/-! in x -/
def cXr (a i : Nat) : Prop := a = 126 ∨ a = 127 ∨ cCl 43 a i
theorem Fr.xr {w w' : Wd} (h : Fr cRr w w') : Fr cXr w w' := h.mono (fun a i q => q.elim (fun r => Or.inl r) (fun r => Or.inr (Or.inl r)))
theorem Fr.xc {w w' : Wd} (h : Fr (cCl 43) w w') : Fr cXr w w' := h.mono (fun a i q => Or.inr (Or.inr q))
theorem RdX.te {v u : Wd} {s p : Nat} {T : Tx} {D D' : Cl} (h : RdX v s T D p) (hf : Fr (cCl 43) v u) (hx : IsX u 43 D') (hI : CI D') : RdX u s T D' p := by
  obtain ⟨⟨h1, h2, h3, h4⟩, h5, h6, h7, h8, h9⟩ := h
  have e : wR u = wR v := by rw [hf.eq]; rfl
  refine ⟨⟨hf.shx h1, h2, by rw [e]; exact h3, by rw [e]; exact h4⟩, ?_, h6.fr hf (by unfold cCl; omega), hx, hI, h9⟩
  rw [hf.at (by unfold cCl; omega)]; exact h5
def PoX (w : Wd) (r : Nat ⊕ (Nat × Cl)) (q : Int32 × Wd) : Prop := Fr cXr w q.2 ∧ Sum.elim (fun f => wI q.2 126 0 = nI f) (fun z => q.1 = nI z.1 ∧ wI q.2 126 0 = -1 ∧ IsX q.2 43 z.2) r
theorem X5_stop {n : Nat} (x : Int32) (v : Wd) (P : Int32 × Wd → Prop) (h : P (x, v)) : Wp (it (fX5_read_L25_body 126) (n + 1) (x, 0, v)) P := by
  refine it_W ?_
  unfold fX5_read_L25_body fX5_read_b93
  rw [if_pos rfl]
  exact Wp_wr (Wp_of rfl h)
theorem X5_loop {w : Wd} {s : Nat} {T : Tx} : ∀ (n p k N : Nat) (D : Cl) (v : Wd), T.1 < p + n → n + 2 ≤ N → k ≤ p → Fr cXr w v → RdX v s T D p → wI v 126 0 = -1 → Wp (it (fX5_read_L25_body 126) N (nI k, 1, v)) (PoX w (outS T n p D k))
  | 0, p, k, N, D, v, h1, _, _, _, hr, _ => absurd hr.2.2.2.2.2 (by omega)
  | n + 1, p, k, 0, D, v, _, h2, _, _, _, _ => absurd h2 (by omega)
  | n + 1, p, k, 1, D, v, _, h2, _, _, _, _ => absurd h2 (by omega)
  | n + 1, p, k, N + 2, D, v, h1, h2, h3, hf, hr, h0 => by
    obtain ⟨r1, r2, r3, r4, r5⟩ := hr.1.1.Rd
    have hT := hr.l
    have hp := hr.2.2.2.2.2
    refine it_W ?_
    unfold fX5_read_L25_body
    dsimp only
    rw [if_neg (show ¬ (1 : Int32) = 0 by decide), if_neg (show ¬ (160 : Int32) < nI k from by
      have e : ((160 : Int32) < nI k) = (160 < k) := nI_lt_iff (a := 160) (by decide) (by omega)
      rw [e]; omega), chk_t r2]
    refine Wp_c (X5_readItem hr) (fun q hq => ?_)
    obtain ⟨q1, q2⟩ := hq
    cases e : rdS T D p with
    | inl f =>
      rw [e] at q2
      rw [if_pos q2.1, out_l e]
      exact Wp_wr (Wp_of rfl ⟨hf.trans q1.xr, q2.2⟩)
    | inr z =>
      rw [e] at q2
      obtain ⟨q3, q4, q5, q6, q7⟩ := q2
      obtain ⟨z1, z2, z3, z4⟩ := rd_ok e
      have hr1 := hr.go q1 q4 q6
      obtain ⟨k1, k2, k3, k4, k5⟩ := hr1.1.1.Rd
      rw [if_neg (by rw [q3]; exact nI_m1 (show z.2.1 < 2147483648 by omega)), chk_t k2, q3]
      refine Wp_c (X5_tell hr1 z1 z4 q7) (fun u hu => ?_)
      have hr2 := hr1.te hu.1 hu.2 (CI_teC hr1.2.2.2.2.1 z1 z4)
      obtain ⟨l1, l2, l3, l4, l5⟩ := hr2.1.1.Rd
      obtain ⟨s1, s2, s3, s4, s5⟩ := hr2.1.1.S hr2.1.2.1
      have hf2 : Fr cXr w u := (hf.trans q1.xr).trans hu.1.xc
      have h02 : wI u 126 0 = -1 := by rw [hu.1.at (by unfold cCl; omega), q5]; exact h0
      unfold fX5_read_b87 fX5_read_b88
      simp only [chk_t l2, hr2.1.2.2.1, ob_s, chk_t s2, hr2.2.2.1.1.2, hr2.2.1, nI_le_iff (show T.1 < 2147483648 by omega) (show z.1 < 2147483648 by omega), nI_1, X5_readSign hr2 (c := 59) (by decide)]
      rw [out_r e]
      by_cases e1 : T.1 ≤ z.1
      · rw [if_pos e1, if_pos e1, Wp_l]
        exact X5_stop _ _ _ ⟨hf2, rfl, h02, hu.2⟩
      · rw [if_neg e1, if_neg e1]
        cases e2 : atB T z.1 59 with
        | false =>
          simp only [if_neg Bool.false_ne_true, if_true, Wp_l]
          exact X5_stop _ _ _ ⟨hf2.sI _ (Or.inl rfl), wI_e _ _ _ _⟩
        | true =>
          have hat := atB_iff.mp e2
          simp only [if_true, if_neg n10, Wp_l]
          refine X5_loop n (z.1 + 1) (k + 1) (N + 1) _ _ (by omega) (by omega) (by omega) (hf2.sI _ (Or.inl rfl)) (hr2.go (Fr_sI _ (Or.inl rfl)) (wI_e _ _ _ _) hat.1) ?_
          rw [wI_n (by omega)]; exact h02
theorem wR_sR (w : Wd) (a i : Nat) (r : Option Nat) (b j : Nat) : wR (sR w a i r) b j = if b = a ∧ j = i then r else wR w b j := by
  show ua w.2.2.2.2 a (va_up (wR w a) i r) b j = _
  unfold ua va_up
  by_cases e : b = a
  · subst e
    rw [if_pos rfl]
    by_cases e2 : j = i
    · rw [if_pos e2, if_pos ⟨rfl, e2⟩]
    · rw [if_neg e2, if_neg (fun q => e2 q.2)]
  · rw [if_neg e, if_neg (fun q => e q.1)]
    rfl
theorem shx_sR {w : Wd} (h : ShX w) {i : Nat} (hi : 2 ≤ i) (r : Option Nat) : ShX (sR w 126 i r) := by
  refine ⟨h.1, h.2.1, fun a ha j hj h6 => ?_⟩
  rw [wR_sR]
  by_cases e : a = 126 ∧ j = i
  · have := h6 e.1
    omega
  · rw [if_neg e]
    exact h.2.2 a ha j hj h6
theorem X5_read {w : Wd} {s : Nat} {T : Tx} {D : Cl} (hs : ShX w) (h8 : s < 8) (ht : TX w s T.1 T.2) (hx : IsX w 43 D) (hI : CI D) : Wp (fX5_read 126 (135 + 2 * s) 43 w) (fun q => ShX q.2 ∧ wL q.2 = wL w ∧ (∀ a i, ¬ cXr a i → wI q.2 a i = wI w a i) ∧ Sum.elim (fun f => wI q.2 126 0 = nI f) (fun z => q.1 = nI z.1 ∧ wI q.2 126 0 = -1 ∧ IsX q.2 43 z.2) (outS T 200 0 D 0)) := by
  have s1 : ShX (sR w 126 2 (some (135 + 2 * s))) := shx_sR hs (by decide) _
  have s2 : ShX (sR (sR w 126 2 (some (135 + 2 * s))) 126 3 (some 43)) := shx_sR s1 (by decide) _
  obtain ⟨-, a2, -⟩ := hs.Rd
  obtain ⟨-, b2, -⟩ := s1.Rd
  obtain ⟨-, c2, -⟩ := s2.Rd
  have ht160 : T.1 ≤ 160 := ht.1.1
  have eR2 : wR (sR (sR w 126 2 (some (135 + 2 * s))) 126 3 (some 43)) 126 2 = some (135 + 2 * s) := by
    rw [wR_sR, if_neg (by omega), wR_sR, if_pos ⟨rfl, rfl⟩]
  have eR3 : wR (sR (sR w 126 2 (some (135 + 2 * s))) 126 3 (some 43)) 126 3 = some 43 := by
    rw [wR_sR, if_pos ⟨rfl, rfl⟩]
  have ti : TX (sR (sR w 126 2 (some (135 + 2 * s))) 126 3 (some 43)) s T.1 T.2 := ht
  have xi : IsX (sR (sR w 126 2 (some (135 + 2 * s))) 126 3 (some 43)) 43 D := hx
  have wi : ∀ a i, wI (sR (sR w 126 2 (some (135 + 2 * s))) 126 3 (some 43)) a i = wI w a i := fun a i => rfl
  have li : wL (sR (sR w 126 2 (some (135 + 2 * s))) 126 3 (some 43)) = wL w := rfl
  unfold fX5_read
  simp only [chk_t a2, bnd_e, chk_t b2, chk_t c2, cO_s]
  generalize sR (sR w 126 2 (some (135 + 2 * s))) 126 3 (some 43) = v at s2 c2 eR2 eR3 ti xi wi li
  have hf : Fr cRr v (sI (sI v 126 4 0) 126 0 (-1)) := Fr.sI (Fr_sI _ (Or.inl rfl)) _ (Or.inl rfl)
  have hr : RdX (sI (sI v 126 4 0) 126 0 (-1)) s T D 0 := by
    have e : wR (sI (sI v 126 4 0) 126 0 (-1)) = wR v := rfl
    refine ⟨⟨hf.shx s2, h8, by rw [e]; exact eR2, by rw [e]; exact eR3⟩, ?_, ti.fr hf (by unfold cRr; omega), xi.fr hI hf (fun a i q => by unfold cRr at q; omega), hI, Nat.zero_le _⟩
    rw [wI_n (by omega), wI_e]; rfl
  unfold fX5_read_L25
  refine Wp_m (X5_loop (w := v) 200 0 0 FU D _ (by omega) (by show 202 ≤ 100000; decide) (Nat.le_refl 0) hf.xr hr (wI_e _ _ _ _)) (fun q hq => ?_)
  obtain ⟨q1, q2⟩ := hq
  refine ⟨q1.shx s2, ?_, fun a i q => ?_, q2⟩
  · rw [q1.L]; exact li
  · rw [q1.at q]; exact wi a i
