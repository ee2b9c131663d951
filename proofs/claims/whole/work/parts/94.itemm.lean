/-! an item in the model -/
def cMt (x i : Nat) : Prop := (4 ≤ x ∧ x < 11) ∨ x = 16 ∨ x = 18 ∨ (x = 0 ∧ (i = 3 ∨ i = 6 ∨ i = 12 ∨ i = 25))
theorem Fr.mt {w w' : Wd} (h : Fr cMr w w') : Fr cMt w w' := h.mono (fun a i q => by unfold cMr at q; unfold cMt; omega)
def NmJ (w : Wd) (s : Nat) (T : Tx) (D : Cl) (c p i : Nat) (z : Nat × (Nat → Nat)) (v : Wd) : Prop := sqS T D c p i = .inr z ∧ Fr cMr w v ∧ RdM v s T D z.1 ∧ ∀ j, j < i → wI v 18 j = nI (z.2 j)
theorem N_step {w v : Wd} {s c p i : Nat} {T : Tx} {D : Cl} {z : Nat × (Nat → Nat)} (hi : i < 4) (h : NmJ w s T D c p i z v) {ix lo hh : Int32} (h1 : ix = nI i) (h2 : lo = nI (loC c i)) (h3 : hh = nI (ctC D c i) - 1) : Wp (fX8_number 0 ix lo hh v) (fun q => (∃ f, sqS T D c p (i + 1) = .inl f ∧ q.1 = 0 ∧ Fr cMr w q.2 ∧ wI q.2 0 25 = nI f) ∨ (∃ z', q.1 = 1 ∧ NmJ w s T D c p (i + 1) z' q.2)) := by
  subst h1
  subst h2
  subst h3
  obtain ⟨hz, hf, hr, hn⟩ := h
  have hct := ct_le hr.2.2.2.2.1 c i
  have hlo := lo_le c i
  have hs := sq_s hz
  refine Wp_m (X8_number hi hr (show loC c i < 900 by omega) (show ctC D c i < 900 by omega)) (fun q hq => ?_)
  obtain ⟨q1, q2⟩ := hq
  cases e : nmS T z.1 (loC c i) (ctC D c i) with
  | inl f =>
    rw [e] at q2 hs
    exact Or.inl ⟨f, hs, q2.1, hf.trans q1.mj, q2.2⟩
  | inr y =>
    rw [e] at q2 hs
    obtain ⟨q3, q4, q5⟩ := q2
    have hy := (nmS_r e).2.2
    refine Or.inr ⟨(y.1, upN z.2 i y.2), q3, hs, hf.trans q1.mj, hr.go q1.mj q4 hy, fun j hj => ?_⟩
    by_cases r : j = i
    · subst r
      show wI q.2 18 j = nI (upN z.2 j y.2 j)
      rw [upN_e]; exact q5
    · show wI q.2 18 j = nI (upN z.2 i y.2 j)
      rw [upN_n _ _ r, q1.at (by unfold cMj; omega)]
      exact hn j (by omega)
def PoIt (D0 : Cl) (w : Wd) (r : Nat ⊕ (Nat × Nat × (Nat → Nat))) (q : Int32 × Wd) : Prop := Fr cMt w q.2 ∧ Sum.elim (fun f => q.1 = 0 ∧ wI q.2 0 25 = nI f) (fun z => q.1 = 1 ∧ wI q.2 0 25 = nI z.1 ∧ IsM q.2 (teC z.2.1 D0 z.2.2)) r
theorem rd_l {T : Tx} {D : Cl} {p f : Nat} (h : wdS T p = .inl f) : rdS T D p = .inl f := by
  unfold rdS
  rw [h]
theorem rd_full {T : Tx} {D : Cl} {p c : Nat} (h : wdS T p = .inr c) (hf : (c = 0 ∧ ¬ cP D < 6) ∨ (c = 1 ∧ ¬ cG D < 8)) : rdS T D p = .inl p := by
  unfold rdS
  rw [h]
  exact if_pos hf
theorem rd_sq {T : Tx} {D : Cl} {p c : Nat} (h : wdS T p = .inr c) (hf : ¬ ((c = 0 ∧ ¬ cP D < 6) ∨ (c = 1 ∧ ¬ cG D < 8))) : rdS T D p = match sqS T D c (p + lnN c) (nnC c) with
    | .inl f => Sum.inl f
    | .inr z => Sum.inr (z.1, c, z.2) := by
  unfold rdS
  rw [h]
  exact if_neg hf
theorem It_f {w u : Wd} {T : Tx} {D : Cl} {p c i f : Nat} (h : wdS T p = .inr c) (hf : ¬ ((c = 0 ∧ ¬ cP D < 6) ∨ (c = 1 ∧ ¬ cG D < 8))) (hi : i ≤ nnC c) (hs : sqS T D c (p + lnN c) i = .inl f) (hfr : Fr cMr w u) (h25 : wI u 0 25 = nI f) : PoIt D w (rdS T D p) (0, u) := by
  rw [rd_sq h hf, sq_fin hs hi]
  exact ⟨hfr.mt, rfl, h25⟩
theorem It_y {w v u : Wd} {s : Nat} {T : Tx} {D : Cl} {p c : Nat} {z : Nat × (Nat → Nat)} {S : Nat → Nat → Prop} (h : wdS T p = .inr c) (hf : ¬ ((c = 0 ∧ ¬ cP D < 6) ∨ (c = 1 ∧ ¬ cG D < 8))) (hJ : NmJ w s T D c (p + lnN c) (nnC c) z v) (hfr : Fr S v u) (hS : ∀ a i, S a i → cMt a i ∧ ¬ (a = 0 ∧ i = 25)) (hx : IsM u (teC c D z.2)) : PoIt D w (rdS T D p) (1, u) := by
  obtain ⟨hz, hfw, hr, hn⟩ := hJ
  rw [rd_sq h hf, hz]
  refine ⟨hfw.mt.trans (hfr.mono (fun a i q => (hS a i q).1)), rfl, ?_, hx⟩
  show wI u 0 25 = nI z.1
  rw [hfr.at (fun q => (hS 0 25 q).2 ⟨rfl, rfl⟩)]
  exact hr.2.1
theorem It_ok {w v : Wd} {s : Nat} {T : Tx} {D : Cl} {p c : Nat} {z : Nat × (Nat → Nat)} (h : wdS T p = .inr c) (hf : ¬ ((c = 0 ∧ ¬ cP D < 6) ∨ (c = 1 ∧ ¬ cG D < 8))) (hJ : NmJ w s T D c (p + lnN c) (nnC c) z v) : okV c D z.2 := by
  have : rdS T D p = .inr (z.1, c, z.2) := by rw [rd_sq h hf, hJ.1]
  exact (rd_ok this).2.2.2
theorem NmJ.o {w v : Wd} {s c p i : Nat} {T : Tx} {D : Cl} {z : Nat × (Nat → Nat)} (h : NmJ w s T D c p i z v) : isO v 0 8 := h.2.2.1.1.1.O
theorem IsM_own {w : Wd} {D : Cl} (hx : IsM w D) {k i d : Nat} (hk : k < cP D) (hi : i < 12) : IsM (sI w 5 (12 * k + i) (nI d)) (setP D (cP D) k (cWl D k) (upN (cOw D k) i d)) := by
  obtain ⟨y1, y4⟩ := hx.2.1 k hk
  refine hx.setP (Or.inl rfl) (fun a j q1 q2 q3 q4 => wI_n (by omega)) ?_ ?_ (fun j hj => ?_)
  · rw [wI_n (by omega)]; exact hx.1.1
  · rw [wI_n (by omega)]; exact y1
  · by_cases r : j = i
    · subst r
      rw [wI_e, upN_e]
    · rw [wI_n (by omega), upN_n _ _ r]; exact y4 j hj
theorem iz0 : inb (0 : Int32) 4 := by decide
theorem iz1 : inb (1 : Int32) 4 := by decide
theorem iz2 : inb (2 : Int32) 4 := by decide
theorem iz3 : inb (3 : Int32) 4 := by decide
theorem tz0 : (0 : Int32).toNatClampNeg = 0 := rfl
theorem tz1 : (1 : Int32).toNatClampNeg = 1 := rfl
theorem tz2 : (2 : Int32).toNatClampNeg = 2 := rfl
theorem tz3 : (3 : Int32).toNatClampNeg = 3 := rfl
theorem X8_item0 {w : Wd} {s p : Nat} {T : Tx} {D : Cl} (h : RdM w s T D p) (hcd : cand T p = 0) : Wp (fX8_item 0 w) (PoIt D w (rdS T D p)) := by
  obtain ⟨k1, k2, k3, k4, k5, k6⟩ := cand_is hcd
  have es : sM T p = 112 := (sM_at (lt_pos 0 (by decide) 0 (by decide)).2).mpr (k1 (by decide))
  have hx0 := h.2.2.2.1
  have hP0 : cP D ≤ 6 := h.2.2.2.2.1.1.1
  have hG0 : cG D ≤ 8 := h.2.2.2.2.1.1.2
  unfold fX8_item
  rw [chk_t h.1.1.O, X8_sign h, ob_s]
  dsimp only
  rw [es, if_neg (show ¬ (112 : Int32) = 100 by decide), if_neg (show ¬ (112 : Int32) = 101 by decide), if_neg (show ¬ (112 : Int32) = 102 by decide), if_neg (show ¬ (112 : Int32) = 103 by decide), if_neg (show ¬ (112 : Int32) = 104 by decide), if_neg (show ¬ (112 : Int32) = 105 by decide), if_neg (show ¬ (112 : Int32) = 106 by decide), if_neg (show ¬ (112 : Int32) = 107 by decide), if_neg (show ¬ (112 : Int32) = 108 by decide), if_neg (show ¬ (112 : Int32) = 109 by decide), if_neg (show ¬ (112 : Int32) = 110 by decide), if_neg (show ¬ (112 : Int32) = 111 by decide), if_pos (show (112 : Int32) = 112 from rfl), chk_t h.1.1.O]
  simp only [hx0.1.1, leL6 (show cP D < 2147483648 by omega)]
  have wd : ∀ r : Int32, (r = 0 ↔ 6 ≤ cP D) → Wp (fX8_item_b117 0 r 8 0 w) (PoIt D w (rdS T D p)) := fun r hrm => by
    unfold fX8_item_b117
    rw [chk_t h.1.1.O]
    refine Wp_c (X8_word_ (c := 0) h (by decide) hcd r) (fun q hq => ?_)
    obtain ⟨g0, hq⟩ := hq
    rcases hq with ⟨f, ew, g2, g3⟩ | ⟨ew, g1, g2, g3⟩ | ⟨ew, g1, g2, g3⟩
    · rw [if_pos g2, rd_l ew]
      exact Wp_of rfl ⟨g0.m5.mt, rfl, g3⟩
    · have hfl := hrm.mp g1
      rw [if_pos g2, rd_full ew (by omega)]
      exact Wp_of rfl ⟨g0.m5.mt, rfl, g3⟩
    have hnf : ¬ ((0 = 0 ∧ ¬ cP D < 6) ∨ (0 = 1 ∧ ¬ cG D < 8)) := by
      have hz : ¬ 6 ≤ cP D := fun t => g1 (hrm.mpr t)
      omega
    rw [if_neg (by rw [g2]; decide)]
    have hJ0 : NmJ w s T D 0 (p + lnN 0) 0 (p + lnN 0, fun _ => 0) q.2 := ⟨rfl, g0.m5, g3, fun j t => absurd t (Nat.not_lt_zero j)⟩
    simp only [chk_t hJ0.o]
    refine Wp_c (N_step (i := 0) (by decide) hJ0 (show (0 : Int32) = nI 0 by decide) (show (0 : Int32) = nI 0 by decide) (show (9 : Int32) = nI 10 - 1 by decide)) (fun q0 hq0 => ?_)
    rcases hq0 with ⟨f, f1, f2, f3, f4⟩ | ⟨z1, f2, hJ1⟩
    · rw [if_pos f2]
      exact Wp_of rfl (It_f ew hnf (by decide) f1 f3 f4)
    rw [if_neg (by rw [f2]; decide)]
    obtain ⟨v1, v2, v3⟩ := It_ok ew hnf hJ1
    have hr := hJ1.2.2.1
    have hm := hr.1.1
    have hx := hr.2.2.2.1
    have hP : cP D ≤ 6 := hr.2.2.2.2.1.1.1
    have hG : cG D ≤ 8 := hr.2.2.2.2.1.1.2
    obtain ⟨n1, n2, n3⟩ := hm.a18
    simp only [chk_t hJ1.o, n1, ob_s, chk_t n2, n3, chk_t iz0, tz0, hJ1.2.2.2 0 (by decide)]
    exact Wp_c (X8_newOne hm hx (v1 rfl) _) (fun q hq => Wp_of rfl (It_y ew hnf hJ1 hq.2.1 (fun a i t => by unfold cMt; omega) hq.2.2))
  by_cases ef : 6 ≤ cP D
  · rw [if_pos ef]
    exact wd 0 ⟨fun _ => ef, fun _ => rfl⟩
  · rw [if_neg ef]
    exact wd 1 ⟨fun t => absurd t n10, fun t => absurd t ef⟩
theorem X8_item1 {w : Wd} {s p : Nat} {T : Tx} {D : Cl} (h : RdM w s T D p) (hcd : cand T p = 1) : Wp (fX8_item 0 w) (PoIt D w (rdS T D p)) := by
  obtain ⟨k1, k2, k3, k4, k5, k6⟩ := cand_is hcd
  have es : sM T p = 103 := (sM_at (lt_pos 1 (by decide) 0 (by decide)).2).mpr (k1 (by decide))
  have hx0 := h.2.2.2.1
  have hP0 : cP D ≤ 6 := h.2.2.2.2.1.1.1
  have hG0 : cG D ≤ 8 := h.2.2.2.2.1.1.2
  unfold fX8_item
  rw [chk_t h.1.1.O, X8_sign h, ob_s]
  dsimp only
  rw [es, if_neg (show ¬ (103 : Int32) = 100 by decide), if_neg (show ¬ (103 : Int32) = 101 by decide), if_neg (show ¬ (103 : Int32) = 102 by decide), if_pos (show (103 : Int32) = 103 from rfl), chk_t h.1.1.O]
  simp only [hx0.1.2.1, leL8 (show cG D < 2147483648 by omega)]
  have wd : ∀ r : Int32, (r = 0 ↔ 8 ≤ cG D) → Wp (fX8_item_b166 0 r 9 0 w) (PoIt D w (rdS T D p)) := fun r hrm => by
    unfold fX8_item_b166
    rw [chk_t h.1.1.O]
    refine Wp_c (X8_word_ (c := 1) h (by decide) hcd r) (fun q hq => ?_)
    obtain ⟨g0, hq⟩ := hq
    rcases hq with ⟨f, ew, g2, g3⟩ | ⟨ew, g1, g2, g3⟩ | ⟨ew, g1, g2, g3⟩
    · rw [if_pos g2, rd_l ew]
      exact Wp_of rfl ⟨g0.m5.mt, rfl, g3⟩
    · have hfl := hrm.mp g1
      rw [if_pos g2, rd_full ew (by omega)]
      exact Wp_of rfl ⟨g0.m5.mt, rfl, g3⟩
    have hnf : ¬ ((1 = 0 ∧ ¬ cP D < 6) ∨ (1 = 1 ∧ ¬ cG D < 8)) := by
      have hz : ¬ 8 ≤ cG D := fun t => g1 (hrm.mpr t)
      omega
    rw [if_neg (by rw [g2]; decide)]
    have hJ0 : NmJ w s T D 1 (p + lnN 1) 0 (p + lnN 1, fun _ => 0) q.2 := ⟨rfl, g0.m5, g3, fun j t => absurd t (Nat.not_lt_zero j)⟩
    simp only [chk_t hJ0.o]
    refine Wp_c (N_step (i := 0) (by decide) hJ0 (show (0 : Int32) = nI 0 by decide) (show (0 : Int32) = nI 0 by decide) (show (6 : Int32) = nI 7 - 1 by decide)) (fun q0 hq0 => ?_)
    rcases hq0 with ⟨f, f1, f2, f3, f4⟩ | ⟨z1, f2, hJ1⟩
    · rw [if_pos f2]
      exact Wp_of rfl (It_f ew hnf (by decide) f1 f3 f4)
    rw [if_neg (by rw [f2]; decide)]
    simp only [chk_t hJ1.o]
    refine Wp_c (N_step (i := 1) (by decide) hJ1 (show (1 : Int32) = nI 1 by decide) (show (0 : Int32) = nI 0 by decide) (show (9 : Int32) = nI 10 - 1 by decide)) (fun q1 hq1 => ?_)
    rcases hq1 with ⟨f, f1, f2, f3, f4⟩ | ⟨z2, f2, hJ2⟩
    · rw [if_pos f2]
      exact Wp_of rfl (It_f ew hnf (by decide) f1 f3 f4)
    rw [if_neg (by rw [f2]; decide)]
    obtain ⟨v1, v2, v3⟩ := It_ok ew hnf hJ2
    have hr := hJ2.2.2.1
    have hm := hr.1.1
    have hx := hr.2.2.2.1
    have hP : cP D ≤ 6 := hr.2.2.2.2.1.1.1
    have hG : cG D ≤ 8 := hr.2.2.2.2.1.1.2
    obtain ⟨n1, n2, n3⟩ := hm.a18
    simp only [chk_t hJ2.o, n1, ob_s, chk_t n2, n3, chk_t iz0, chk_t iz1, tz0, tz1, hJ2.2.2.2 0 (by decide), hJ2.2.2.2 1 (by decide)]
    exact Wp_c (X8_newGarment hm hx (v2 rfl) _ _) (fun q hq => Wp_of rfl (It_y ew hnf hJ2 hq.2.1 (fun a i t => by unfold cH at t; unfold cMt; omega) hq.2.2))
  by_cases ef : 8 ≤ cG D
  · rw [if_pos ef]
    exact wd 0 ⟨fun _ => ef, fun _ => rfl⟩
  · rw [if_neg ef]
    exact wd 1 ⟨fun t => absurd t n10, fun t => absurd t ef⟩
theorem X8_item2 {w : Wd} {s p : Nat} {T : Tx} {D : Cl} (h : RdM w s T D p) (hcd : cand T p = 2) : Wp (fX8_item 0 w) (PoIt D w (rdS T D p)) := by
  obtain ⟨k1, k2, k3, k4, k5, k6⟩ := cand_is hcd
  have es : sM T p = 111 := (sM_at (lt_pos 2 (by decide) 0 (by decide)).2).mpr (k1 (by decide))
  have hx0 := h.2.2.2.1
  have hP0 : cP D ≤ 6 := h.2.2.2.2.1.1.1
  have hG0 : cG D ≤ 8 := h.2.2.2.2.1.1.2
  unfold fX8_item
  rw [chk_t h.1.1.O, X8_sign h, ob_s]
  dsimp only
  rw [es, if_neg (show ¬ (111 : Int32) = 100 by decide), if_neg (show ¬ (111 : Int32) = 101 by decide), if_neg (show ¬ (111 : Int32) = 102 by decide), if_neg (show ¬ (111 : Int32) = 103 by decide), if_neg (show ¬ (111 : Int32) = 104 by decide), if_neg (show ¬ (111 : Int32) = 105 by decide), if_neg (show ¬ (111 : Int32) = 106 by decide), if_neg (show ¬ (111 : Int32) = 107 by decide), if_neg (show ¬ (111 : Int32) = 108 by decide), if_neg (show ¬ (111 : Int32) = 109 by decide), if_neg (show ¬ (111 : Int32) = 110 by decide), if_pos (show (111 : Int32) = 111 from rfl), chk_t h.1.1.O]
  rw [X8_then h 102, ob_s, atB_f (k3 rfl), if_neg Bool.false_ne_true, if_pos rfl, chk_t h.1.1.O]
  refine Wp_c (X8_word (c := 2) h (by decide) hcd) (fun q hq => ?_)
  obtain ⟨g0, hq⟩ := hq
  rcases hq with ⟨f, ew, g2, g3⟩ | ⟨ew, g2, g3⟩
  · rw [if_pos g2, rd_l ew]
    exact Wp_of rfl ⟨g0.m5.mt, rfl, g3⟩
  have hnf : ¬ ((2 = 0 ∧ ¬ cP D < 6) ∨ (2 = 1 ∧ ¬ cG D < 8)) := by omega
  rw [if_neg (by rw [g2]; decide)]
  have hJ0 : NmJ w s T D 2 (p + lnN 2) 0 (p + lnN 2, fun _ => 0) q.2 := ⟨rfl, g0.m5, g3, fun j t => absurd t (Nat.not_lt_zero j)⟩
  simp only [chk_t hJ0.o, hJ0.2.2.1.2.2.2.1.1.1]
  refine Wp_c (N_step (i := 0) (by decide) hJ0 (show (0 : Int32) = nI 0 by decide) (show (0 : Int32) = nI 0 by decide) rfl) (fun q0 hq0 => ?_)
  rcases hq0 with ⟨f, f1, f2, f3, f4⟩ | ⟨z1, f2, hJ1⟩
  · rw [if_pos f2]
    exact Wp_of rfl (It_f ew hnf (by decide) f1 f3 f4)
  rw [if_neg (by rw [f2]; decide)]
  simp only [chk_t hJ1.o]
  refine Wp_c (N_step (i := 1) (by decide) hJ1 (show (1 : Int32) = nI 1 by decide) (show (0 : Int32) = nI 0 by decide) (show (11 : Int32) = nI 12 - 1 by decide)) (fun q1 hq1 => ?_)
  rcases hq1 with ⟨f, f1, f2, f3, f4⟩ | ⟨z2, f2, hJ2⟩
  · rw [if_pos f2]
    exact Wp_of rfl (It_f ew hnf (by decide) f1 f3 f4)
  rw [if_neg (by rw [f2]; decide)]
  simp only [chk_t hJ2.o]
  refine Wp_c (N_step (i := 2) (by decide) hJ2 (show (2 : Int32) = nI 2 by decide) (show (0 : Int32) = nI 0 by decide) (show (9 : Int32) = nI 10 - 1 by decide)) (fun q2 hq2 => ?_)
  rcases hq2 with ⟨f, f1, f2, f3, f4⟩ | ⟨z3, f2, hJ3⟩
  · rw [if_pos f2]
    exact Wp_of rfl (It_f ew hnf (by decide) f1 f3 f4)
  rw [if_neg (by rw [f2]; decide)]
  obtain ⟨v1, v2, v3⟩ := It_ok ew hnf hJ3
  have hr := hJ3.2.2.1
  have hm := hr.1.1
  have hx := hr.2.2.2.1
  have hP : cP D ≤ 6 := hr.2.2.2.2.1.1.1
  have hG : cG D ≤ 8 := hr.2.2.2.2.1.1.2
  obtain ⟨n1, n2, n3⟩ := hm.a18
  have b0 : 0 ≤ z3.2 0 ∧ z3.2 0 < cP D := v3 0 (by decide)
  have b1 : 0 ≤ z3.2 1 ∧ z3.2 1 < 12 := v3 1 (by decide)
  obtain ⟨m1, m2⟩ := inb72 (show z3.2 0 < 6 by omega) b1.2
  obtain ⟨c1, c2, c3⟩ := hm.a5
  simp only [chk_t hJ3.o, n1, ob_s, chk_t n2, n3, chk_t iz0, chk_t iz1, chk_t iz2, tz0, tz1, tz2, hJ3.2.2.2 0 (by decide), hJ3.2.2.2 1 (by decide), hJ3.2.2.2 2 (by decide), c1, chk_t c2, c3, tw_mul_nI, nI_add, chk_t m1, m2, bnd_e]
  exact Wp_of rfl (It_y (S := fun a _ => a = 5) ew hnf hJ3 (Fr_sI _ rfl) (fun a i t => by unfold cMt; omega) (IsM_own hx b0.2 b1.2))
theorem X8_item3 {w : Wd} {s p : Nat} {T : Tx} {D : Cl} (h : RdM w s T D p) (hcd : cand T p = 3) : Wp (fX8_item 0 w) (PoIt D w (rdS T D p)) := by
  obtain ⟨k1, k2, k3, k4, k5, k6⟩ := cand_is hcd
  have es : sM T p = 104 := (sM_at (lt_pos 3 (by decide) 0 (by decide)).2).mpr (k1 (by decide))
  have hx0 := h.2.2.2.1
  have hP0 : cP D ≤ 6 := h.2.2.2.2.1.1.1
  have hG0 : cG D ≤ 8 := h.2.2.2.2.1.1.2
  unfold fX8_item
  rw [chk_t h.1.1.O, X8_sign h, ob_s]
  dsimp only
  rw [es, if_neg (show ¬ (104 : Int32) = 100 by decide), if_neg (show ¬ (104 : Int32) = 101 by decide), if_neg (show ¬ (104 : Int32) = 102 by decide), if_neg (show ¬ (104 : Int32) = 103 by decide), if_pos (show (104 : Int32) = 104 from rfl), chk_t h.1.1.O]
  refine Wp_c (X8_word (c := 3) h (by decide) hcd) (fun q hq => ?_)
  obtain ⟨g0, hq⟩ := hq
  rcases hq with ⟨f, ew, g2, g3⟩ | ⟨ew, g2, g3⟩
  · rw [if_pos g2, rd_l ew]
    exact Wp_of rfl ⟨g0.m5.mt, rfl, g3⟩
  have hnf : ¬ ((3 = 0 ∧ ¬ cP D < 6) ∨ (3 = 1 ∧ ¬ cG D < 8)) := by omega
  rw [if_neg (by rw [g2]; decide)]
  have hJ0 : NmJ w s T D 3 (p + lnN 3) 0 (p + lnN 3, fun _ => 0) q.2 := ⟨rfl, g0.m5, g3, fun j t => absurd t (Nat.not_lt_zero j)⟩
  simp only [chk_t hJ0.o, hJ0.2.2.1.2.2.2.1.1.2.1]
  refine Wp_c (N_step (i := 0) (by decide) hJ0 (show (0 : Int32) = nI 0 by decide) (show (0 : Int32) = nI 0 by decide) rfl) (fun q0 hq0 => ?_)
  rcases hq0 with ⟨f, f1, f2, f3, f4⟩ | ⟨z1, f2, hJ1⟩
  · rw [if_pos f2]
    exact Wp_of rfl (It_f ew hnf (by decide) f1 f3 f4)
  rw [if_neg (by rw [f2]; decide)]
  simp only [chk_t hJ1.o]
  refine Wp_c (N_step (i := 1) (by decide) hJ1 (show (1 : Int32) = nI 1 by decide) (show (0 : Int32) = nI 0 by decide) (show (11 : Int32) = nI 12 - 1 by decide)) (fun q1 hq1 => ?_)
  rcases hq1 with ⟨f, f1, f2, f3, f4⟩ | ⟨z2, f2, hJ2⟩
  · rw [if_pos f2]
    exact Wp_of rfl (It_f ew hnf (by decide) f1 f3 f4)
  rw [if_neg (by rw [f2]; decide)]
  simp only [chk_t hJ2.o]
  refine Wp_c (N_step (i := 2) (by decide) hJ2 (show (2 : Int32) = nI 2 by decide) (show (1 : Int32) = nI 1 by decide) (show (9 : Int32) = nI 10 - 1 by decide)) (fun q2 hq2 => ?_)
  rcases hq2 with ⟨f, f1, f2, f3, f4⟩ | ⟨z3, f2, hJ3⟩
  · rw [if_pos f2]
    exact Wp_of rfl (It_f ew hnf (by decide) f1 f3 f4)
  rw [if_neg (by rw [f2]; decide)]
  simp only [chk_t hJ3.o]
  refine Wp_c (N_step (i := 3) (by decide) hJ3 (show (3 : Int32) = nI 3 by decide) (show (1 : Int32) = nI 1 by decide) (show (9 : Int32) = nI 10 - 1 by decide)) (fun q3 hq3 => ?_)
  rcases hq3 with ⟨f, f1, f2, f3, f4⟩ | ⟨z4, f2, hJ4⟩
  · rw [if_pos f2]
    exact Wp_of rfl (It_f ew hnf (by decide) f1 f3 f4)
  rw [if_neg (by rw [f2]; decide)]
  obtain ⟨v1, v2, v3⟩ := It_ok ew hnf hJ4
  have hr := hJ4.2.2.1
  have hm := hr.1.1
  have hx := hr.2.2.2.1
  have hP : cP D ≤ 6 := hr.2.2.2.2.1.1.1
  have hG : cG D ≤ 8 := hr.2.2.2.2.1.1.2
  obtain ⟨n1, n2, n3⟩ := hm.a18
  have b0 : 0 ≤ z4.2 0 ∧ z4.2 0 < cG D := v3 0 (by decide)
  have b1 : 0 ≤ z4.2 1 ∧ z4.2 1 < 12 := v3 1 (by decide)
  simp only [chk_t hJ4.o, n1, ob_s, chk_t n2, n3, chk_t iz0, chk_t iz1, chk_t iz2, chk_t iz3, tz0, tz1, tz2, tz3, hJ4.2.2.2 0 (by decide), hJ4.2.2.2 1 (by decide), hJ4.2.2.2 2 (by decide), hJ4.2.2.2 3 (by decide), X8_becomes hm (show z4.2 0 < 8 by omega) b1.2]
  exact Wp_of rfl (It_y (S := fun a _ => a = 9 ∨ a = 10) ew hnf hJ4 (Fr.sI (Fr_sI _ (Or.inl rfl)) _ (Or.inr rfl)) (fun a i t => by unfold cMt; omega) (IsM_setH hx b1.2 _ _))
theorem X8_item4 {w : Wd} {s p : Nat} {T : Tx} {D : Cl} (h : RdM w s T D p) (hcd : cand T p = 4) : Wp (fX8_item 0 w) (PoIt D w (rdS T D p)) := by
  obtain ⟨k1, k2, k3, k4, k5, k6⟩ := cand_is hcd
  have es : sM T p = 119 := (sM_at (lt_pos 4 (by decide) 0 (by decide)).2).mpr (k1 (by decide))
  have hx0 := h.2.2.2.1
  have hP0 : cP D ≤ 6 := h.2.2.2.2.1.1.1
  have hG0 : cG D ≤ 8 := h.2.2.2.2.1.1.2
  unfold fX8_item
  rw [chk_t h.1.1.O, X8_sign h, ob_s]
  dsimp only
  rw [es, if_neg (show ¬ (119 : Int32) = 100 by decide), if_neg (show ¬ (119 : Int32) = 101 by decide), if_neg (show ¬ (119 : Int32) = 102 by decide), if_neg (show ¬ (119 : Int32) = 103 by decide), if_neg (show ¬ (119 : Int32) = 104 by decide), if_neg (show ¬ (119 : Int32) = 105 by decide), if_neg (show ¬ (119 : Int32) = 106 by decide), if_neg (show ¬ (119 : Int32) = 107 by decide), if_neg (show ¬ (119 : Int32) = 108 by decide), if_neg (show ¬ (119 : Int32) = 109 by decide), if_neg (show ¬ (119 : Int32) = 110 by decide), if_neg (show ¬ (119 : Int32) = 111 by decide), if_neg (show ¬ (119 : Int32) = 112 by decide), if_neg (show ¬ (119 : Int32) = 113 by decide), if_neg (show ¬ (119 : Int32) = 114 by decide), if_neg (show ¬ (119 : Int32) = 115 by decide), if_neg (show ¬ (119 : Int32) = 116 by decide), if_neg (show ¬ (119 : Int32) = 117 by decide), if_neg (show ¬ (119 : Int32) = 118 by decide), if_pos (show (119 : Int32) = 119 from rfl), chk_t h.1.1.O]
  rw [X8_then h 97, ob_s, atB_f (k5 rfl), if_neg Bool.false_ne_true, if_pos rfl, chk_t h.1.1.O]
  refine Wp_c (X8_word (c := 4) h (by decide) hcd) (fun q hq => ?_)
  obtain ⟨g0, hq⟩ := hq
  rcases hq with ⟨f, ew, g2, g3⟩ | ⟨ew, g2, g3⟩
  · rw [if_pos g2, rd_l ew]
    exact Wp_of rfl ⟨g0.m5.mt, rfl, g3⟩
  have hnf : ¬ ((4 = 0 ∧ ¬ cP D < 6) ∨ (4 = 1 ∧ ¬ cG D < 8)) := by omega
  rw [if_neg (by rw [g2]; decide)]
  have hJ0 : NmJ w s T D 4 (p + lnN 4) 0 (p + lnN 4, fun _ => 0) q.2 := ⟨rfl, g0.m5, g3, fun j t => absurd t (Nat.not_lt_zero j)⟩
  simp only [chk_t hJ0.o, hJ0.2.2.1.2.2.2.1.1.2.1]
  refine Wp_c (N_step (i := 0) (by decide) hJ0 (show (0 : Int32) = nI 0 by decide) (show (0 : Int32) = nI 0 by decide) rfl) (fun q0 hq0 => ?_)
  rcases hq0 with ⟨f, f1, f2, f3, f4⟩ | ⟨z1, f2, hJ1⟩
  · rw [if_pos f2]
    exact Wp_of rfl (It_f ew hnf (by decide) f1 f3 f4)
  rw [if_neg (by rw [f2]; decide)]
  simp only [chk_t hJ1.o, hJ1.2.2.1.2.2.2.1.1.1]
  refine Wp_c (N_step (i := 1) (by decide) hJ1 (show (1 : Int32) = nI 1 by decide) (show (0 : Int32) = nI 0 by decide) rfl) (fun q1 hq1 => ?_)
  rcases hq1 with ⟨f, f1, f2, f3, f4⟩ | ⟨z2, f2, hJ2⟩
  · rw [if_pos f2]
    exact Wp_of rfl (It_f ew hnf (by decide) f1 f3 f4)
  rw [if_neg (by rw [f2]; decide)]
  obtain ⟨v1, v2, v3⟩ := It_ok ew hnf hJ2
  have hr := hJ2.2.2.1
  have hm := hr.1.1
  have hx := hr.2.2.2.1
  have hP : cP D ≤ 6 := hr.2.2.2.2.1.1.1
  have hG : cG D ≤ 8 := hr.2.2.2.2.1.1.2
  obtain ⟨n1, n2, n3⟩ := hm.a18
  have b0 : 0 ≤ z2.2 0 ∧ z2.2 0 < cG D := v3 0 (by decide)
  obtain ⟨c1, c2, c3⟩ := hm.a8
  obtain ⟨m1, m2⟩ := inb8 (show z2.2 0 < 8 by omega)
  have e : nI (z2.2 1) = wv (z2.2 1 + 1) := (wv_s (z2.2 1)).symm
  simp only [chk_t hJ2.o, n1, ob_s, chk_t n2, n3, chk_t iz0, chk_t iz1, tz0, tz1, hJ2.2.2.2 0 (by decide), hJ2.2.2.2 1 (by decide), c1, chk_t c2, c3, chk_t m1, m2, bnd_e, e]
  exact Wp_of rfl (It_y (S := fun a _ => a = 8) ew hnf hJ2 (Fr_sI _ rfl) (fun a i t => by unfold cMt; omega) (IsM_wrC hx b0.2))
theorem X8_item5 {w : Wd} {s p : Nat} {T : Tx} {D : Cl} (h : RdM w s T D p) (hcd : cand T p = 5) : Wp (fX8_item 0 w) (PoIt D w (rdS T D p)) := by
  obtain ⟨k1, k2, k3, k4, k5, k6⟩ := cand_is hcd
  have es : sM T p = 111 := (sM_at (lt_pos 5 (by decide) 0 (by decide)).2).mpr (k1 (by decide))
  have hx0 := h.2.2.2.1
  have hP0 : cP D ≤ 6 := h.2.2.2.2.1.1.1
  have hG0 : cG D ≤ 8 := h.2.2.2.2.1.1.2
  unfold fX8_item
  rw [chk_t h.1.1.O, X8_sign h, ob_s]
  dsimp only
  rw [es, if_neg (show ¬ (111 : Int32) = 100 by decide), if_neg (show ¬ (111 : Int32) = 101 by decide), if_neg (show ¬ (111 : Int32) = 102 by decide), if_neg (show ¬ (111 : Int32) = 103 by decide), if_neg (show ¬ (111 : Int32) = 104 by decide), if_neg (show ¬ (111 : Int32) = 105 by decide), if_neg (show ¬ (111 : Int32) = 106 by decide), if_neg (show ¬ (111 : Int32) = 107 by decide), if_neg (show ¬ (111 : Int32) = 108 by decide), if_neg (show ¬ (111 : Int32) = 109 by decide), if_neg (show ¬ (111 : Int32) = 110 by decide), if_pos (show (111 : Int32) = 111 from rfl), chk_t h.1.1.O]
  rw [X8_then h 102, ob_s, atB_iff.mpr (k4 rfl)]
  dsimp only
  rw [if_neg (show ¬ (if true = true then (1 : Int32) else 0) = 0 by decide), chk_t h.1.1.O]
  refine Wp_c (X8_word (c := 5) h (by decide) hcd) (fun q hq => ?_)
  obtain ⟨g0, hq⟩ := hq
  rcases hq with ⟨f, ew, g2, g3⟩ | ⟨ew, g2, g3⟩
  · rw [if_pos g2, rd_l ew]
    exact Wp_of rfl ⟨g0.m5.mt, rfl, g3⟩
  have hnf : ¬ ((5 = 0 ∧ ¬ cP D < 6) ∨ (5 = 1 ∧ ¬ cG D < 8)) := by omega
  rw [if_neg (by rw [g2]; decide)]
  have hJ0 : NmJ w s T D 5 (p + lnN 5) 0 (p + lnN 5, fun _ => 0) q.2 := ⟨rfl, g0.m5, g3, fun j t => absurd t (Nat.not_lt_zero j)⟩
  simp only [chk_t hJ0.o, hJ0.2.2.1.2.2.2.1.1.2.1]
  refine Wp_c (N_step (i := 0) (by decide) hJ0 (show (0 : Int32) = nI 0 by decide) (show (0 : Int32) = nI 0 by decide) rfl) (fun q0 hq0 => ?_)
  rcases hq0 with ⟨f, f1, f2, f3, f4⟩ | ⟨z1, f2, hJ1⟩
  · rw [if_pos f2]
    exact Wp_of rfl (It_f ew hnf (by decide) f1 f3 f4)
  rw [if_neg (by rw [f2]; decide)]
  obtain ⟨v1, v2, v3⟩ := It_ok ew hnf hJ1
  have hr := hJ1.2.2.1
  have hm := hr.1.1
  have hx := hr.2.2.2.1
  have hP : cP D ≤ 6 := hr.2.2.2.2.1.1.1
  have hG : cG D ≤ 8 := hr.2.2.2.2.1.1.2
  obtain ⟨n1, n2, n3⟩ := hm.a18
  have b0 : 0 ≤ z1.2 0 ∧ z1.2 0 < cG D := v3 0 (by decide)
  obtain ⟨c1, c2, c3⟩ := hm.a8
  obtain ⟨m1, m2⟩ := inb8 (show z1.2 0 < 8 by omega)
  have e : (-1 : Int32) = wv 0 := wv_0.symm
  simp only [chk_t hJ1.o, n1, ob_s, chk_t n2, n3, chk_t iz0, tz0, hJ1.2.2.2 0 (by decide), c1, chk_t c2, c3, chk_t m1, m2, bnd_e, e]
  exact Wp_of rfl (It_y (S := fun a _ => a = 8) ew hnf hJ1 (Fr_sI _ rfl) (fun a i t => by unfold cMt; omega) (IsM_wrC hx b0.2))
theorem X8_item6 {w : Wd} {s p : Nat} {T : Tx} {D : Cl} (h : RdM w s T D p) (hcd : cand T p = 6) : Wp (fX8_item 0 w) (PoIt D w (rdS T D p)) := by
  obtain ⟨k1, k2, k3, k4, k5, k6⟩ := cand_is hcd
  have es : sM T p = 119 := (sM_at (lt_pos 6 (by decide) 0 (by decide)).2).mpr (k1 (by decide))
  have hx0 := h.2.2.2.1
  have hP0 : cP D ≤ 6 := h.2.2.2.2.1.1.1
  have hG0 : cG D ≤ 8 := h.2.2.2.2.1.1.2
  unfold fX8_item
  rw [chk_t h.1.1.O, X8_sign h, ob_s]
  dsimp only
  rw [es, if_neg (show ¬ (119 : Int32) = 100 by decide), if_neg (show ¬ (119 : Int32) = 101 by decide), if_neg (show ¬ (119 : Int32) = 102 by decide), if_neg (show ¬ (119 : Int32) = 103 by decide), if_neg (show ¬ (119 : Int32) = 104 by decide), if_neg (show ¬ (119 : Int32) = 105 by decide), if_neg (show ¬ (119 : Int32) = 106 by decide), if_neg (show ¬ (119 : Int32) = 107 by decide), if_neg (show ¬ (119 : Int32) = 108 by decide), if_neg (show ¬ (119 : Int32) = 109 by decide), if_neg (show ¬ (119 : Int32) = 110 by decide), if_neg (show ¬ (119 : Int32) = 111 by decide), if_neg (show ¬ (119 : Int32) = 112 by decide), if_neg (show ¬ (119 : Int32) = 113 by decide), if_neg (show ¬ (119 : Int32) = 114 by decide), if_neg (show ¬ (119 : Int32) = 115 by decide), if_neg (show ¬ (119 : Int32) = 116 by decide), if_neg (show ¬ (119 : Int32) = 117 by decide), if_neg (show ¬ (119 : Int32) = 118 by decide), if_pos (show (119 : Int32) = 119 from rfl), chk_t h.1.1.O]
  rw [X8_then h 97, ob_s, atB_iff.mpr (k6 rfl)]
  dsimp only
  rw [if_neg (show ¬ (if true = true then (1 : Int32) else 0) = 0 by decide), chk_t h.1.1.O]
  refine Wp_c (X8_word (c := 6) h (by decide) hcd) (fun q hq => ?_)
  obtain ⟨g0, hq⟩ := hq
  rcases hq with ⟨f, ew, g2, g3⟩ | ⟨ew, g2, g3⟩
  · rw [if_pos g2, rd_l ew]
    exact Wp_of rfl ⟨g0.m5.mt, rfl, g3⟩
  have hnf : ¬ ((6 = 0 ∧ ¬ cP D < 6) ∨ (6 = 1 ∧ ¬ cG D < 8)) := by omega
  rw [if_neg (by rw [g2]; decide)]
  have hJ0 : NmJ w s T D 6 (p + lnN 6) 0 (p + lnN 6, fun _ => 0) q.2 := ⟨rfl, g0.m5, g3, fun j t => absurd t (Nat.not_lt_zero j)⟩
  simp only [chk_t hJ0.o, hJ0.2.2.1.2.2.2.1.1.2.1]
  refine Wp_c (N_step (i := 0) (by decide) hJ0 (show (0 : Int32) = nI 0 by decide) (show (0 : Int32) = nI 0 by decide) rfl) (fun q0 hq0 => ?_)
  rcases hq0 with ⟨f, f1, f2, f3, f4⟩ | ⟨z1, f2, hJ1⟩
  · rw [if_pos f2]
    exact Wp_of rfl (It_f ew hnf (by decide) f1 f3 f4)
  rw [if_neg (by rw [f2]; decide)]
  obtain ⟨v1, v2, v3⟩ := It_ok ew hnf hJ1
  have hr := hJ1.2.2.1
  have hm := hr.1.1
  have hx := hr.2.2.2.1
  have hP : cP D ≤ 6 := hr.2.2.2.2.1.1.1
  have hG : cG D ≤ 8 := hr.2.2.2.2.1.1.2
  obtain ⟨n1, n2, n3⟩ := hm.a18
  have b0 : 0 ≤ z1.2 0 ∧ z1.2 0 < cG D := v3 0 (by decide)
  simp only [chk_t hJ1.o, n1, ob_s, chk_t n2, n3, chk_t iz0, tz0, hJ1.2.2.2 0 (by decide)]
  exact Wp_c (X8_washes hm hx hr.2.2.2.2.1 b0.2) (fun q hq => Wp_of rfl (It_y ew hnf hJ1 hq.1 (fun a i t => by unfold cM9 at t; unfold cMt; omega) hq.2))
theorem X8_item7 {w : Wd} {s p : Nat} {T : Tx} {D : Cl} (h : RdM w s T D p) (hcd : cand T p = 7) : Wp (fX8_item 0 w) (PoIt D w (rdS T D p)) := by
  obtain ⟨k1, k2, k3, k4, k5, k6⟩ := cand_is hcd
  have es : sM T p = 100 := (sM_at (lt_pos 7 (by decide) 0 (by decide)).2).mpr (k1 (by decide))
  have hx0 := h.2.2.2.1
  have hP0 : cP D ≤ 6 := h.2.2.2.2.1.1.1
  have hG0 : cG D ≤ 8 := h.2.2.2.2.1.1.2
  unfold fX8_item
  rw [chk_t h.1.1.O, X8_sign h, ob_s]
  dsimp only
  rw [es, if_pos (show (100 : Int32) = 100 from rfl), chk_t h.1.1.O]
  refine Wp_c (X8_word (c := 7) h (by decide) hcd) (fun q hq => ?_)
  obtain ⟨g0, hq⟩ := hq
  rcases hq with ⟨f, ew, g2, g3⟩ | ⟨ew, g2, g3⟩
  · rw [if_pos g2, rd_l ew]
    exact Wp_of rfl ⟨g0.m5.mt, rfl, g3⟩
  have hnf : ¬ ((7 = 0 ∧ ¬ cP D < 6) ∨ (7 = 1 ∧ ¬ cG D < 8)) := by omega
  rw [if_neg (by rw [g2]; decide)]
  have hJ0 : NmJ w s T D 7 (p + lnN 7) 0 (p + lnN 7, fun _ => 0) q.2 := ⟨rfl, g0.m5, g3, fun j t => absurd t (Nat.not_lt_zero j)⟩
  have z0 := 0
  obtain ⟨v1, v2, v3⟩ := It_ok ew hnf hJ0
  have hr := hJ0.2.2.1
  have hm := hr.1.1
  have hx := hr.2.2.2.1
  have hP : cP D ≤ 6 := hr.2.2.2.2.1.1.1
  have hG : cG D ≤ 8 := hr.2.2.2.2.1.1.2
  obtain ⟨n1, n2, n3⟩ := hm.a18
  simp only [chk_t hJ0.o]
  exact Wp_c (X8_day hm hx hr.2.2.2.2.1) (fun q hq => Wp_of rfl (It_y ew hnf hJ0 hq.2.1 (fun a i t => by unfold cMd at t; unfold cMt; omega) hq.2.2))
theorem X8_item {w : Wd} {s p : Nat} {T : Tx} {D : Cl} (h : RdM w s T D p) : Wp (fX8_item 0 w) (PoIt D w (rdS T D p)) := by
  have hcl := cand_le T p
  rcases (show cand T p = 0 ∨ cand T p = 1 ∨ cand T p = 2 ∨ cand T p = 3 ∨ cand T p = 4 ∨ cand T p = 5 ∨ cand T p = 6 ∨ cand T p = 7 ∨ cand T p = 8 by omega) with hcd | hcd | hcd | hcd | hcd | hcd | hcd | hcd | hcd
  · exact X8_item0 h hcd
  · exact X8_item1 h hcd
  · exact X8_item2 h hcd
  · exact X8_item3 h hcd
  · exact X8_item4 h hcd
  · exact X8_item5 h hcd
  · exact X8_item6 h hcd
  · exact X8_item7 h hcd
  · obtain ⟨k1, k2, k3, k4, k5, k6⟩ := cand_is hcd
    have nn : ∀ j, j < 8 → ∀ x : Int32, lt j 0 = x → ¬ x = -1 → ¬ sM T p = x := fun j hj x e1 e2 q => k2 rfl j hj (by rw [e1]; exact (sM_at e2).mp q)
    have ew : wdS T p = .inl p := by
      unfold wdS
      rw [if_pos hcd]
    have fin : PoIt D w (rdS T D p) (0, w) := by
      rw [rd_l ew]
      exact ⟨Fr.refl w, rfl, h.2.1⟩
    have m100 : ¬ sM T p = 100 := nn 7 (by decide) 100 rfl (by decide)
    have m103 : ¬ sM T p = 103 := nn 1 (by decide) 103 rfl (by decide)
    have m104 : ¬ sM T p = 104 := nn 3 (by decide) 104 rfl (by decide)
    have m111 : ¬ sM T p = 111 := nn 2 (by decide) 111 rfl (by decide)
    have m112 : ¬ sM T p = 112 := nn 0 (by decide) 112 rfl (by decide)
    have m119 : ¬ sM T p = 119 := nn 4 (by decide) 119 rfl (by decide)
    unfold fX8_item fX8_item_b555
    rw [chk_t h.1.1.O, X8_sign h, ob_s]
    dsimp only
    simp only [if_neg m100, if_neg m103, if_neg m104, if_neg m111, if_neg m112, if_neg m119, ite_self]
    exact Wp_of rfl fin
