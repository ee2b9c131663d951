/-! an item in x -/
noncomputable def rdS (T : Tx) (D : Cl) (p : Nat) : Nat ⊕ (Nat × Nat × (Nat → Nat)) := match wdS T p with
  | .inl f => .inl f
  | .inr c => if (c = 0 ∧ ¬ cP D < 6) ∨ (c = 1 ∧ ¬ cG D < 8) then .inl p else match sqS T D c (p + lnN c) (nnC c) with
    | .inl f => .inl f
    | .inr z => .inr (z.1, c, z.2)
theorem wd_ok {T : Tx} {p c : Nat} (h : wdS T p = .inr c) : c < 8 ∧ p + lnN c ≤ T.1 ∧ cand T p = c ∧ mtS T p c = lnN c := by
  unfold wdS at h
  by_cases e : cand T p = 8
  · rw [if_pos e] at h; cases h
  · rw [if_neg e] at h
    by_cases e2 : mtS T p (cand T p) < lnN (cand T p)
    · rw [if_pos e2] at h; cases h
    · rw [if_neg e2] at h
      cases h
      have hc : cand T p < 8 := by have := cand_le T p; omega
      have hl := ln_le _ hc
      have hm : mtS T p (cand T p) = lnN (cand T p) := by
        have := fI_le (fun i => !atB T (p + i) (lt (cand T p) i)) (lnN (cand T p))
        unfold mtS at e2 ⊢
        omega
      refine ⟨hc, ?_, rfl, hm⟩
      have := fI_no (fun i => !atB T (p + i) (lt (cand T p) i)) (lnN (cand T p)) (lnN (cand T p) - 1) (by unfold mtS at hm; omega)
      have h2 : atB T (p + (lnN (cand T p) - 1)) (lt (cand T p) (lnN (cand T p) - 1)) = true := by
        have h3 : (!atB T (p + (lnN (cand T p) - 1)) (lt (cand T p) (lnN (cand T p) - 1))) = false := this
        cases e4 : atB T (p + (lnN (cand T p) - 1)) (lt (cand T p) (lnN (cand T p) - 1)) with
        | true => rfl
        | false => rw [e4] at h3; cases h3
      have h5 := (atB_iff.mp h2).1
      omega
def okV (c : Nat) (D : Cl) (vs : Nat → Nat) : Prop := (c = 0 → cP D < 6) ∧ (c = 1 → cG D < 8) ∧ ∀ j, j < nnC c → loC c j ≤ vs j ∧ vs j < ctC D c j
theorem rd_ok {T : Tx} {D : Cl} {p : Nat} {z : Nat × Nat × (Nat → Nat)} (h : rdS T D p = .inr z) : z.2.1 < 8 ∧ p < z.1 ∧ z.1 ≤ T.1 ∧ okV z.2.1 D z.2.2 := by
  unfold rdS at h
  cases e : wdS T p with
  | inl f => rw [e] at h; cases h
  | inr c =>
    rw [e] at h
    have h : (if (c = 0 ∧ ¬ cP D < 6) ∨ (c = 1 ∧ ¬ cG D < 8) then Sum.inl p else match sqS T D c (p + lnN c) (nnC c) with
      | .inl f => Sum.inl f
      | .inr z => Sum.inr (z.1, c, z.2)) = Sum.inr z := h
    obtain ⟨h1, h2, -, -⟩ := wd_ok e
    have hl := (ln_le c h1).2
    by_cases e2 : (c = 0 ∧ ¬ cP D < 6) ∨ (c = 1 ∧ ¬ cG D < 8)
    · rw [if_pos e2] at h; cases h
    · rw [if_neg e2] at h
      cases e3 : sqS T D c (p + lnN c) (nnC c) with
      | inl f => rw [e3] at h; cases h
      | inr y =>
        rw [e3] at h
        cases h
        obtain ⟨⟨k1, k2⟩, k3⟩ := sq_rg h2 _ _ e3
        refine ⟨h1, ?_, k2, ?_, ?_, k3⟩
        · show p < y.1
          omega
        · intro q
          have q : c = 0 := q
          omega
        · intro q
          have q : c = 1 := q
          omega
def PoI (v : Wd) (N : Nat) (r : Nat ⊕ (Nat × Nat × (Nat → Nat))) (q : Int32 × Wd) : Prop := Fr cRr v q.2 ∧ Sum.elim (fun f => q.1 = -1 ∧ wI q.2 126 0 = nI f) (fun z => q.1 = nI z.2.1 ∧ wI q.2 126 4 = nI z.1 ∧ wI q.2 126 0 = wI v 126 0 ∧ z.1 ≤ N ∧ ∀ j, j < nnC z.2.1 → wI q.2 127 j = nI (z.2.2 j)) r
theorem X5_b46 {w v : Wd} {s p c : Nat} {T : Tx} {D : Cl} (hc : c < 8) (hf : Fr cRr w v) (h : RdX v s T D p) (h0 : wI v 126 0 = wI w 126 0) : Wp (fX5_readItem_b46 126 (nI c) v) (PoI w T.1 (match sqS T D c p (nnC c) with
    | .inl f => .inl f
    | .inr z => .inr (z.1, c, z.2))) := by
  obtain ⟨r1, r2, r3, r4, r5⟩ := h.1.1.Rd
  unfold fX5_readItem_b46
  simp only [if_neg (nI_m1 (show c < 2147483648 by omega)), chk_t r2]
  refine Wp_c (X5_readNumbers h hc) (fun q hq => ?_)
  obtain ⟨q1, q2⟩ := hq
  cases e : sqS T D c p (nnC c) with
  | inl f =>
    rw [e] at q2
    rw [if_pos q2.1]
    exact Wp_of rfl ⟨hf.trans q1, rfl, q2.2⟩
  | inr z =>
    rw [e] at q2
    obtain ⟨q3, q4, q5, q6, q7⟩ := q2
    rw [if_neg (by rw [q3]; decide)]
    exact Wp_of rfl ⟨hf.trans q1, rfl, q4, q5.trans h0, q6, q7⟩
theorem X5_readItem {w : Wd} {s p : Nat} {T : Tx} {D : Cl} (h : RdX w s T D p) : Wp (fX5_readItem 126 w) (PoI w T.1 (rdS T D p)) := by
  obtain ⟨r1, r2, r3, r4, r5⟩ := h.1.1.Rd
  unfold fX5_readItem
  simp only [chk_t r2, bnd_e, h.2.1]
  refine Wp_c (X5_readWord h) (fun q hq => ?_)
  obtain ⟨q1, q2⟩ := hq
  unfold rdS
  cases e : wdS T p with
  | inl f =>
    rw [e] at q2
    obtain ⟨q3, q4⟩ := q2
    rw [if_neg (by rw [q3]; decide)]
    unfold fX5_readItem_b24 fX5_readItem_b46
    rw [if_neg (by rw [q3]; decide), if_pos q3]
    exact Wp_of rfl ⟨q1.r6, rfl, q4⟩
  | inr c =>
    rw [e] at q2
    obtain ⟨q3, q4, q5, q6⟩ := q2
    obtain ⟨hc, -⟩ := wd_ok e
    have hr := h.go q1.r6 q4 q6
    obtain ⟨k1, k2, k3, k4, k5⟩ := hr.1.1.Rd
    have hcl := hr.1.1.cl (b := 43) (Or.inr (Or.inl rfl))
    obtain ⟨a1, -⟩ := hcl.B
    have hx := hr.2.2.2.1
    have hI := hr.2.2.2.2.1
    have hP : cP D ≤ 6 := hI.1.1
    have hG : cG D ≤ 8 := hI.1.2
    have main : ¬ ((c = 0 ∧ ¬ cP D < 6) ∨ (c = 1 ∧ ¬ cG D < 8)) → Wp (fX5_readItem_b46 126 (nI c) q.2) (PoI w T.1 (if (c = 0 ∧ ¬ cP D < 6) ∨ (c = 1 ∧ ¬ cG D < 8) then Sum.inl p else match sqS T D c (p + lnN c) (nnC c) with
      | .inl f => Sum.inl f
      | .inr z => Sum.inr (z.1, c, z.2))) := fun hn => by
      rw [if_neg hn]
      exact X5_b46 hc q1.r6 hr q5
    have bad : ((c = 0 ∧ ¬ cP D < 6) ∨ (c = 1 ∧ ¬ cG D < 8)) → Wp (fX5_readItem_b39 126 (nI p) q.2) (PoI w T.1 (if (c = 0 ∧ ¬ cP D < 6) ∨ (c = 1 ∧ ¬ cG D < 8) then Sum.inl p else match sqS T D c (p + lnN c) (nnC c) with
      | .inl f => Sum.inl f
      | .inr z => Sum.inr (z.1, c, z.2))) := fun hn => by
      rw [if_pos hn]
      unfold fX5_readItem_b39
      simp only [chk_t k2, bnd_e]
      exact Wp_of rfl ⟨q1.r6.sI _ (Or.inl rfl), rfl, wI_e _ _ _ _⟩
    rw [q3]
    show Wp (if nI c = 0 then _ else _) _
    simp only [eqL0 (show c < 2147483648 by omega), chk_t k2, hr.1.2.2.2, ob_s, chk_t a1, X0_fullP a1 hx.1.1 (show cP D ≤ 8 by omega)]
    unfold fX5_readItem_b24
    simp only [eqL1 (show c < 2147483648 by omega), chk_t k2, hr.1.2.2.2, ob_s, chk_t a1, X0_fullG a1 hx.1.2.1 hG]
    by_cases e0 : c = 0
    · simp only [if_pos e0, if_neg (show ¬ c = 1 by omega)]
      by_cases f : cP D < 6
      · simp only [bI_f (show ¬ ¬ cP D < 6 from fun g => g f), if_true]
        exact main (by omega)
      · simp only [bI_t f, if_neg n10]
        exact bad (by omega)
    · simp only [if_neg e0]
      by_cases e1 : c = 1
      · simp only [if_pos e1]
        by_cases f : cG D < 8
        · simp only [bI_f (show ¬ ¬ cG D < 8 from fun g => g f), if_true]
          exact main (by omega)
        · simp only [bI_t f, if_neg n10]
          exact bad (by omega)
      · simp only [if_neg e1]
        exact main (by omega)
/-! what an item tells -/
def teC (c : Nat) (D : Cl) (vs : Nat → Nat) : Cl := if c = 0 then newP D (vs 0) else if c = 1 then newG D (vs 0) (vs 1) else if c = 2 then setP D (cP D) (vs 0) (cWl D (vs 0)) (upN (cOw D (vs 0)) (vs 1) (vs 2)) else if c = 3 then setH D (vs 0) (vs 1) (vs 2) (vs 3) else if c = 4 then wrC D (vs 0) (vs 1 + 1) else if c = 5 then wrC D (vs 0) 0 else if c = 6 then wsC D (vs 0) else dayC D
theorem CI_own {D : Cl} (hI : CI D) {k i d : Nat} (hk : k < cP D) (hd : d ≤ 9) : CI (setP D (cP D) k (cWl D k) (upN (cOw D k) i d)) := by
  obtain ⟨w1, w4⟩ := hI.2.1 k hk
  refine hI.setP hI.1.1 (Or.inl rfl) w1 (fun j hj => ?_)
  by_cases r : j = i
  · subst r; rw [upN_e]; exact hd
  · rw [upN_n _ _ r]; exact w4 j hj
theorem CI_teC {D : Cl} (hI : CI D) {vs : Nat → Nat} {c : Nat} (h8 : c < 8) (hv : okV c D vs) : CI (teC c D vs) := by
  obtain ⟨v1, v2, v3⟩ := hv
  rcases (show c = 0 ∨ c = 1 ∨ c = 2 ∨ c = 3 ∨ c = 4 ∨ c = 5 ∨ c = 6 ∨ c = 7 by omega) with q | q | q | q | q | q | q | q <;> subst q
  · have a0 : 0 ≤ vs 0 ∧ vs 0 < 10 := v3 0 (by decide)
    exact CI_newP hI (v1 rfl) (by omega)
  · have a0 : 0 ≤ vs 0 ∧ vs 0 < 7 := v3 0 (by decide)
    have a1 : 0 ≤ vs 1 ∧ vs 1 < 10 := v3 1 (by decide)
    exact CI_newG hI (v2 rfl) (by omega) (by omega)
  · have a0 : 0 ≤ vs 0 ∧ vs 0 < cP D := v3 0 (by decide)
    have a2 : 0 ≤ vs 2 ∧ vs 2 < 10 := v3 2 (by decide)
    exact CI_own hI a0.2 (by omega)
  · have a0 : 0 ≤ vs 0 ∧ vs 0 < cG D := v3 0 (by decide)
    have a2 : 1 ≤ vs 2 ∧ vs 2 < 10 := v3 2 (by decide)
    have a3 : 1 ≤ vs 3 ∧ vs 3 < 10 := v3 3 (by decide)
    exact CI_setH hI _ _ (by omega) (by omega) (by omega)
  · have a0 : 0 ≤ vs 0 ∧ vs 0 < cG D := v3 0 (by decide)
    have a1 : 0 ≤ vs 1 ∧ vs 1 < cP D := v3 1 (by decide)
    exact CI_wrC hI a0.2 a1.2
  · have a0 : 0 ≤ vs 0 ∧ vs 0 < cG D := v3 0 (by decide)
    exact CI_wrC hI a0.2 (Nat.zero_le _)
  · have a0 : 0 ≤ vs 0 ∧ vs 0 < cG D := v3 0 (by decide)
    exact CI_wsC hI a0.2
  · exact CI_dayC hI
theorem IsX_own {w : Wd} {b : Nat} {D : Cl} (hx : IsX w b D) (hI : CI D) {k i d : Nat} (hk : k < cP D) (hi : i < 12) : IsX (sI w (pA b k + 1) i (nI d)) b (setP D (cP D) k (cWl D k) (upN (cOw D k) i d)) := by
  have hP : cP D ≤ 6 := hI.1.1
  obtain ⟨x1, x4⟩ := hx.2.1 k hk
  have hpa : pA b k = b + 40 - 40 + (pA b k - b) := by unfold pA; omega
  refine hx.setP hP (Or.inl rfl) hk (fun a j q1 q2 => wI_n (by omega)) ?_ ?_ (fun j hj => ?_)
  · rw [wI_n (by unfold pA; omega)]; exact hx.1.1
  · rw [wI_n (by unfold pA; omega)]; exact x1
  · by_cases r : j = i
    · subst r
      rw [wI_e, upN_e]
    · rw [wI_n (by omega), upN_n _ _ r]; exact x4 j hj
theorem X5_tell {v : Wd} {s p : Nat} {T : Tx} {D : Cl} (h : RdX v s T D p) {c : Nat} (h8 : c < 8) {vs : Nat → Nat} (hv : okV c D vs) (hn : ∀ j, j < nnC c → wI v 127 j = nI (vs j)) : Wp (fX5_tell 126 (nI c) v) (fun v' => Fr (cCl 43) v v' ∧ IsX v' 43 (teC c D vs)) := by
  obtain ⟨v1, v2, v3⟩ := hv
  obtain ⟨r1, r2, r3, r4, r5⟩ := h.1.1.Rd
  have hc := h.1.1.cl (b := 43) (Or.inr (Or.inl rfl))
  obtain ⟨a1, a2, a3, a4, a5, a6, a7, a8, a9, a10⟩ := hc.B
  have hx := h.2.2.2.1
  have hI := h.2.2.2.2.1
  have hP : cP D ≤ 6 := hI.1.1
  have hG : cG D ≤ 8 := hI.1.2
  have i0 : inb (0 : Int32) 4 := by decide
  have i1 : inb (1 : Int32) 4 := by decide
  have i2 : inb (2 : Int32) 4 := by decide
  have i3 : inb (3 : Int32) 4 := by decide
  have k0 : (0 : Int32).toNatClampNeg = 0 := rfl
  have k1 : (1 : Int32).toNatClampNeg = 1 := rfl
  have k2 : (2 : Int32).toNatClampNeg = 2 := rfl
  have k3 : (3 : Int32).toNatClampNeg = 3 := rfl
  unfold fX5_tell fX5_tell_b230
  rcases (show c = 0 ∨ c = 1 ∨ c = 2 ∨ c = 3 ∨ c = 4 ∨ c = 5 ∨ c = 6 ∨ c = 7 by omega) with q | q | q | q | q | q | q | q <;> subst q
  · have b0 : 0 ≤ vs 0 ∧ vs 0 < 10 := v3 0 (by decide)
    rw [if_pos (show nI 0 = 0 from rfl)]
    simp only [chk_t r2, h.1.2.2.2, r3, ob_s, chk_t r4, r5, chk_t i0, chk_t a1, k0, hn 0 (by decide)]
    exact Wp_c (X0_addPerson hc hx (v1 rfl) (vs 0)) (fun q hq => Wp_of rfl ⟨hq.2.1, hq.2.2⟩)
  · rw [if_neg (show ¬ nI 1 = 0 by decide), if_pos (show nI 1 = 1 from rfl)]
    simp only [chk_t r2, h.1.2.2.2, r3, ob_s, chk_t r4, r5, chk_t i0, chk_t i1, chk_t a1, k0, k1, hn 0 (by decide), hn 1 (by decide)]
    exact Wp_c (X0_addGarment hc hx hI (v2 rfl) (vs 0) (vs 1)) (fun q hq => Wp_of rfl ⟨hq.2.1, hq.2.2⟩)
  · have b0 : 0 ≤ vs 0 ∧ vs 0 < cP D := v3 0 (by decide)
    have b1 : 0 ≤ vs 1 ∧ vs 1 < 12 := v3 1 (by decide)
    obtain ⟨p1, p2, p3, p4, p5, p6, p7⟩ := hc.P (show vs 0 < 6 by omega)
    obtain ⟨n1, n2⟩ := inb12 b1.2
    rw [if_neg (show ¬ nI 2 = 0 by decide), if_neg (show ¬ nI 2 = 1 by decide), if_pos (show nI 2 = 2 from rfl)]
    simp only [chk_t r2, h.1.2.2.2, r3, ob_s, chk_t r4, r5, chk_t i0, chk_t i1, chk_t i2, chk_t a1, k0, k1, k2, hn 0 (by decide), hn 1 (by decide), hn 2 (by decide), a2, chk_t a5, a6, chk_t p1, p2, p3, chk_t p4, p5, chk_t p6, p7, chk_t n1, n2, bnd_e]
    exact Wp_of rfl ⟨Fr_sI _ (by unfold cCl pA; omega), IsX_own hx hI b0.2 b1.2⟩
  · have b0 : 0 ≤ vs 0 ∧ vs 0 < cG D := v3 0 (by decide)
    have b1 : 0 ≤ vs 1 ∧ vs 1 < 12 := v3 1 (by decide)
    obtain ⟨p1, p2, p3, p4, p5, p6, p7, p8, p9, p10⟩ := hc.G (show vs 0 < 8 by omega)
    have ac : fX2_accustom (gA 43 (vs 0)) (nI (vs 1)) (nI (vs 2)) (nI (vs 3)) v = some (sI (sI v (gA 43 (vs 0) + 1) (vs 1) (nI (vs 2))) (gA 43 (vs 0) + 2) (vs 1) (nI (vs 3))) := X2_accustom (hc.2.2 (vs 0) (by omega)).2 b1.2 (nI (vs 2)) (nI (vs 3))
    rw [if_neg (show ¬ nI 3 = 0 by decide), if_neg (show ¬ nI 3 = 1 by decide), if_neg (show ¬ nI 3 = 2 by decide), if_pos (show nI 3 = 3 from rfl)]
    simp only [chk_t r2, h.1.2.2.2, r3, ob_s, chk_t r4, r5, chk_t i0, chk_t i1, chk_t i2, chk_t i3, chk_t a1, k0, k1, k2, k3, hn 0 (by decide), hn 1 (by decide), hn 2 (by decide), hn 3 (by decide), a3, chk_t a7, a8, chk_t p1, p2, p3, chk_t p4, ac]
    exact Wp_of rfl ⟨(Fr_sI _ (by unfold cCl gA; omega)).sI _ (by unfold cCl gA; omega), IsX_setH hx hI (show vs 0 < 8 by omega) (vs 2) (vs 3)⟩
  · have b0 : 0 ≤ vs 0 ∧ vs 0 < cG D := v3 0 (by decide)
    obtain ⟨p1, p2, p3, p4, p5, p6, p7, p8, p9, p10⟩ := hc.G (show vs 0 < 8 by omega)
    rw [if_neg (show ¬ nI 4 = 0 by decide), if_neg (show ¬ nI 4 = 1 by decide), if_neg (show ¬ nI 4 = 2 by decide), if_neg (show ¬ nI 4 = 3 by decide), if_pos (show nI 4 = 4 from rfl)]
    simp only [chk_t r2, h.1.2.2.2, r3, ob_s, chk_t r4, r5, chk_t i0, chk_t i1, chk_t a1, k0, k1, hn 0 (by decide), hn 1 (by decide), a3, chk_t a7, a8, chk_t p1, p2, p3, chk_t p4, bnd_e]
    have e : nI (vs 1) = wv (vs 1 + 1) := (wv_s (vs 1)).symm
    rw [e]
    exact Wp_of rfl ⟨Fr_sI _ (by unfold cCl gA; omega), IsX_wrC hx hI b0.2⟩
  · have b0 : 0 ≤ vs 0 ∧ vs 0 < cG D := v3 0 (by decide)
    obtain ⟨p1, p2, p3, p4, p5, p6, p7, p8, p9, p10⟩ := hc.G (show vs 0 < 8 by omega)
    rw [if_neg (show ¬ nI 5 = 0 by decide), if_neg (show ¬ nI 5 = 1 by decide), if_neg (show ¬ nI 5 = 2 by decide), if_neg (show ¬ nI 5 = 3 by decide), if_neg (show ¬ nI 5 = 4 by decide), if_pos (show nI 5 = 5 from rfl)]
    simp only [chk_t r2, h.1.2.2.2, r3, ob_s, chk_t r4, r5, chk_t i0, chk_t a1, k0, hn 0 (by decide), a3, chk_t a7, a8, chk_t p1, p2, p3, chk_t p4, bnd_e]
    have e : (-1 : Int32) = wv 0 := wv_0.symm
    rw [e]
    exact Wp_of rfl ⟨Fr_sI _ (by unfold cCl gA; omega), IsX_wrC hx hI b0.2⟩
  · have b0 : 0 ≤ vs 0 ∧ vs 0 < cG D := v3 0 (by decide)
    obtain ⟨p1, p2, p3, p4, p5, p6, p7, p8, p9, p10⟩ := hc.G (show vs 0 < 8 by omega)
    rw [if_neg (show ¬ nI 6 = 0 by decide), if_neg (show ¬ nI 6 = 1 by decide), if_neg (show ¬ nI 6 = 2 by decide), if_neg (show ¬ nI 6 = 3 by decide), if_neg (show ¬ nI 6 = 4 by decide), if_neg (show ¬ nI 6 = 5 by decide), if_pos (show nI 6 = 6 from rfl)]
    simp only [chk_t r2, h.1.2.2.2, r3, ob_s, chk_t r4, r5, chk_t i0, chk_t a1, k0, hn 0 (by decide), a3, chk_t a7, a8, chk_t p1, p2, p3, chk_t p4]
    exact Wp_c (X0_launder hc hx hI b0.2) (fun q hq => Wp_of rfl ⟨hq.1.mono (fun a i t => by unfold gA at t; unfold cCl; omega), hq.2⟩)
  · rw [if_neg (show ¬ nI 7 = 0 by decide), if_neg (show ¬ nI 7 = 1 by decide), if_neg (show ¬ nI 7 = 2 by decide), if_neg (show ¬ nI 7 = 3 by decide), if_neg (show ¬ nI 7 = 4 by decide), if_neg (show ¬ nI 7 = 5 by decide), if_neg (show ¬ nI 7 = 6 by decide)]
    simp only [chk_t r2, h.1.2.2.2, ob_s, chk_t a1]
    exact Wp_c (X0_passDay hc hx hI) (fun q hq => Wp_of rfl ⟨hq.2.1, hq.2.2⟩)
