/-! reading in x -/
theorem ShX.Rd {x : Wd} (hs : ShX x) : wR x 0 6 = some 126 ∧ isO x 126 5 ∧ wR x 126 1 = some 127 ∧ isA x 127 0 ∧ wn x 127 = 4 :=
  ⟨hs.R (by decide) (by decide) (fun q => by omega) (by decide +kernel), ⟨by rw [hs.1]; decide, (hs.K (n := 0) (by decide) (by decide +kernel)).1⟩, hs.R (by decide) (by decide) (fun _ => by decide) (by decide +kernel), ⟨by rw [hs.1]; decide, (hs.K (n := 4) (by decide) (by decide +kernel)).1⟩, (hs.K (k := 0) (by decide) (by decide +kernel)).2⟩
def cRr (a _ : Nat) : Prop := a = 126 ∨ a = 127
def cR6 (a _ : Nat) : Prop := a = 126
theorem Fr.r6 {w w' : Wd} (h : Fr cR6 w w') : Fr cRr w w' := h.mono (fun _ _ q => Or.inl q)
def RdX (v : Wd) (s : Nat) (T : Tx) (D : Cl) (p : Nat) : Prop := (ShX v ∧ s < 8 ∧ wR v 126 2 = some (135 + 2 * s) ∧ wR v 126 3 = some 43) ∧ wI v 126 4 = nI p ∧ TX v s T.1 T.2 ∧ IsX v 43 D ∧ CI D ∧ p ≤ T.1
theorem RdX.go {v u : Wd} {s p p' : Nat} {T : Tx} {D : Cl} (h : RdX v s T D p) (hf : Fr cRr v u) (hp : wI u 126 4 = nI p') (hl : p' ≤ T.1) : RdX u s T D p' := by
  obtain ⟨⟨h1, h2, h3, h4⟩, h5, h6, h7, h8, h9⟩ := h
  have e : wR u = wR v := by rw [hf.eq]; rfl
  exact ⟨⟨hf.shx h1, h2, by rw [e]; exact h3, by rw [e]; exact h4⟩, hp, h6.fr hf (by unfold cRr; omega), h7.fr h8 hf (fun a i q => by unfold cRr at q; omega), h8, hl⟩
theorem RdX.at {v : Wd} {s p : Nat} {T : Tx} {D : Cl} (h : RdX v s T D p) {i : Nat} (hi : i < 2147483648) : fX6_intAt (135 + 2 * s) (nI i) v = some (sX T i, v) := X6_intAt h.1.1 h.1.2.1 h.2.2.1 hi
theorem RdX.l {v : Wd} {s p : Nat} {T : Tx} {D : Cl} (h : RdX v s T D p) : T.1 ≤ 160 := h.2.2.1.1.1
theorem X5_readSign {v : Wd} {s p : Nat} {T : Tx} {D : Cl} (h : RdX v s T D p) {c : Int32} (hc : ¬ c = 0) : fX5_readSign 126 c v = some (if atB T p c then (1, sI v 126 4 (nI (p + 1))) else (0, sI v 126 0 (nI p))) := by
  obtain ⟨r1, r2, r3, r4, r5⟩ := h.1.1.Rd
  obtain ⟨s1, s2, s3, s4, s5⟩ := h.1.1.S h.1.2.1
  have hl := h.l
  have hp := h.2.2.2.2.2
  unfold fX5_readSign
  simp only [chk_t r2, h.1.2.2.1, ob_s, chk_t s2, h.2.1, h.at (show p < 2147483648 by omega), bnd_e]
  by_cases e : At T p c
  · rw [if_pos ((sX_at hc).mpr e), if_pos (atB_iff.mpr e), nI_1]
  · rw [if_neg (fun q => e ((sX_at hc).mp q)), atB_f e, if_neg Bool.false_ne_true]
theorem X5_isDigit {v : Wd} {s p i : Nat} {T : Tx} {D : Cl} (h : RdX v s T D p) (hi : i < 2147483648) : fX5_isDigitSign 126 (nI i) v = some (if dgB T i then 1 else 0, v) := by
  obtain ⟨r1, r2, r3, r4, r5⟩ := h.1.1.Rd
  obtain ⟨s1, s2, s3, s4, s5⟩ := h.1.1.S h.1.2.1
  unfold fX5_isDigitSign
  simp only [chk_t r2, h.1.2.2.1, ob_s, chk_t s2, h.at hi, X7_isWithin, sX_dg]
  cases dgB T i with
  | true => exact c01_1 v
  | false => exact c01_0 v
theorem X5_takeDigit {v : Wd} {s p : Nat} {T : Tx} {D : Cl} (h : RdX v s T D p) (hd : dgB T p = true) : fX5_takeDigit 126 v = some (nI (dvS T p), sI v 126 4 (nI (p + 1))) := by
  obtain ⟨r1, r2, r3, r4, r5⟩ := h.1.1.Rd
  obtain ⟨s1, s2, s3, s4, s5⟩ := h.1.1.S h.1.2.1
  have hl := h.l
  have hp := h.2.2.2.2.2
  unfold fX5_takeDigit
  simp only [chk_t r2, h.1.2.2.1, ob_s, chk_t s2, h.2.1, h.at (show p < 2147483648 by omega), sX_v hd, bnd_e, nI_1]
noncomputable def ndS (T : Tx) (p lo cnt : Nat) : Nat ⊕ (Nat × Nat) :=
  if dgB T p then (if dgB T (p + 1) then (if lo ≤ 10 * dvS T p + dvS T (p + 1) ∧ 10 * dvS T p + dvS T (p + 1) < cnt then .inr (p + 2, 10 * dvS T p + dvS T (p + 1)) else .inl p) else (if lo ≤ dvS T p ∧ dvS T p < cnt then .inr (p + 1, dvS T p) else .inl p)) else .inl p
theorem nm_nd (T : Tx) (p lo cnt : Nat) : nmS T p lo cnt = if atB T p 32 then ndS T (p + 1) lo cnt else .inl p := rfl
/-- how a reading of a number ends -/
def PoN (v : Wd) (r : Nat ⊕ (Nat × Nat)) (q : Int32 × Wd) : Prop := Fr cR6 v q.2 ∧ Sum.elim (fun f => q.1 = -1 ∧ wI q.2 126 0 = nI f) (fun z => q.1 = nI z.2 ∧ wI q.2 126 4 = nI z.1 ∧ wI q.2 126 0 = wI v 126 0) r
theorem wi_n {x lo cnt : Nat} (hx : x < 900) (hl : lo < 900) (hc : cnt < 900) : (nI lo ≤ nI x ∧ nI x ≤ nI cnt - 1) = (lo ≤ x ∧ x < cnt) := by
  have h1 := nI_le_iff (a := lo) (b := x) (by omega) (by omega)
  have h2 : (nI x ≤ nI cnt - 1) = ¬ (cnt < x + 1) := wv_le (by omega) (by omega)
  rw [h1, h2]
  exact propext ⟨fun q => ⟨q.1, by omega⟩, fun q => ⟨q.1, by omega⟩⟩
theorem X5_b55 {v w : Wd} {s p0 p f : Nat} {T : Tx} {D : Cl} (hw : Fr cR6 w v) (h : RdX v s T D p) (h0 : wI v 126 0 = wI w 126 0) {x lo cnt : Nat} (hx : x < 900) (hl : lo < 900) (hc : cnt < 900) : Wp (fX5_readNumber_b55 126 (nI lo) (nI cnt - 1) (nI f) (nI x) v) (PoN w (if lo ≤ x ∧ x < cnt then .inr (p, x) else .inl f)) := by
  obtain ⟨r1, r2, r3, r4, r5⟩ := h.1.1.Rd
  unfold fX5_readNumber_b55
  simp only [X7_isWithin, ob_s, wi_n hx hl hc]
  by_cases e : lo ≤ x ∧ x < cnt
  · simp only [if_pos e, if_neg n10]
    exact Wp_of rfl ⟨hw, rfl, h.2.1, h0⟩
  · simp only [if_neg e, if_true, chk_t r2, bnd_e]
    exact Wp_of rfl ⟨hw.sI _ rfl, rfl, wI_e _ _ _ _⟩
theorem X5_readNumber {v : Wd} {s p : Nat} {T : Tx} {D : Cl} (h : RdX v s T D p) {lo cnt : Nat} (hl : lo < 900) (hc : cnt < 900) : Wp (fX5_readNumber 126 (nI lo) (nI cnt - 1) v) (PoN v (ndS T p lo cnt)) := by
  obtain ⟨r1, r2, r3, r4, r5⟩ := h.1.1.Rd
  have hl160 := h.l
  have hp := h.2.2.2.2.2
  unfold fX5_readNumber ndS
  simp only [chk_t r2, bnd_e, h.2.1, X5_isDigit h (show p < 2147483648 by omega), ob_s]
  cases e : dgB T p with
  | false =>
    simp only [if_neg Bool.false_ne_true, if_true, chk_t r2, h.2.1, bnd_e]
    exact Wp_of rfl ⟨Fr_sI _ rfl, rfl, wI_e _ _ _ _⟩
  | true =>
    obtain ⟨d1, d2, d3⟩ := dg_is e
    have hf1 : Fr cR6 v (sI v 126 4 (nI (p + 1))) := Fr_sI _ rfl
    have h1 := h.go hf1.r6 (wI_e _ _ _ _) (show p + 1 ≤ T.1 from d1)
    have h01 : wI (sI v 126 4 (nI (p + 1))) 126 0 = wI v 126 0 := wI_n (by omega)
    obtain ⟨k1, k2, k3, k4, k5⟩ := h1.1.1.Rd
    simp only [if_true, if_neg n10, chk_t r2, X5_takeDigit h e, ob_s, chk_t k2, h1.2.1, X5_isDigit h1 (show p + 1 < 2147483648 by omega)]
    cases e2 : dgB T (p + 1) with
    | false =>
      simp only [if_neg Bool.false_ne_true, if_true]
      exact X5_b55 (p0 := p) hf1 h1 h01 (by omega) hl hc
    | true =>
      obtain ⟨c1, c2, c3⟩ := dg_is e2
      have hf2 : Fr cR6 v (sI (sI v 126 4 (nI (p + 1))) 126 4 (nI (p + 1 + 1))) := hf1.sI _ rfl
      have h2 := h.go hf2.r6 (wI_e _ _ _ _) (show p + 1 + 1 ≤ T.1 from c1)
      have h02 : wI (sI (sI v 126 4 (nI (p + 1))) 126 4 (nI (p + 1 + 1))) 126 0 = wI v 126 0 := by rw [wI_n (by omega), wI_n (by omega)]
      have ev : (10 : Int32) * nI (dvS T p) + nI (dvS T (p + 1)) = nI (10 * dvS T p + dvS T (p + 1)) := by
        rw [show (10 : Int32) * nI (dvS T p) = nI (10 * dvS T p) from nI_mul 10 _, nI_add]
      simp only [if_true, if_neg n10, X5_takeDigit h1 e2, ob_s, ev, bnd_e]
      exact X5_b55 (p0 := p) hf2 h2 h02 (by omega) hl hc
/-- what the numbers of a word are -/
def nnC (c : Nat) : Nat := [1, 2, 3, 4, 2, 1, 1, 0].getD c 0
def mnT (c i : Nat) : Nat := [1, 0, 0, 0, 3, 1, 0, 0, 5, 4, 1, 0, 6, 4, 2, 2, 6, 5, 0, 0, 6, 0, 0, 0, 6, 0, 0, 0, 0, 0, 0, 0].getD (c * 4 + i) 0
def loC (c i : Nat) : Nat := if mnT c i = 2 then 1 else 0
def ctC (D : Cl) (c i : Nat) : Nat := if mnT c i = 3 then 7 else if mnT c i = 4 then 12 else if mnT c i = 5 then cP D else if mnT c i = 6 then cG D else 10
theorem mn_ok : ∀ c, c < 8 → ∀ i, i < 4 → inb (nI (c * 4 + i)) (saV 4).length ∧ (saV 4).getD (nI (c * 4 + i)).toNatClampNeg 0 = nI (mnT c i) ∧ mnT c i < 7 ∧ (mnT c i = 0 ↔ nnC c ≤ i) := by decide +kernel
theorem nn_le : ∀ c, c < 8 → nnC c ≤ 4 := by decide
/-- the numbers of a word, one behind the other -/
noncomputable def sqS (T : Tx) (D : Cl) (c p : Nat) : Nat → Nat ⊕ (Nat × (Nat → Nat))
  | 0 => .inr (p, fun _ => 0)
  | i + 1 => match sqS T D c p i with
    | .inl f => .inl f
    | .inr z => match nmS T z.1 (loC c i) (ctC D c i) with
      | .inl f => .inl f
      | .inr y => .inr (y.1, upN z.2 i y.2)
theorem sq_bad {T : Tx} {D : Cl} {c p i f : Nat} (h : sqS T D c p i = .inl f) : ∀ n, sqS T D c p (i + n) = .inl f
  | 0 => h
  | n + 1 => by
    show (match sqS T D c p (i + n) with
      | .inl f => .inl f
      | .inr z => match nmS T z.1 (loC c (i + n)) (ctC D c (i + n)) with
        | .inl f => .inl f
        | .inr y => .inr (y.1, upN z.2 (i + n) y.2)) = Sum.inl f
    rw [sq_bad h n]
theorem sq_s {T : Tx} {D : Cl} {c p i : Nat} {z : Nat × (Nat → Nat)} (h : sqS T D c p i = .inr z) : sqS T D c p (i + 1) = match nmS T z.1 (loC c i) (ctC D c i) with
      | .inl f => Sum.inl f
      | .inr y => Sum.inr (y.1, upN z.2 i y.2) := by
  show (match sqS T D c p i with
      | .inl f => Sum.inl f
      | .inr z => match nmS T z.1 (loC c i) (ctC D c i) with
        | .inl f => Sum.inl f
        | .inr y => Sum.inr (y.1, upN z.2 i y.2)) = _
  rw [h]
theorem nd_r {T : Tx} {p lo cnt : Nat} {y : Nat × Nat} (h : ndS T p lo cnt = .inr y) : (lo ≤ y.2 ∧ y.2 < cnt) ∧ p < y.1 ∧ y.1 ≤ T.1 := by
  unfold ndS at h
  cases e : dgB T p with
  | false => rw [e, if_neg Bool.false_ne_true] at h; cases h
  | true =>
    rw [e, if_pos rfl] at h
    obtain ⟨d1, d2, d3⟩ := dg_is e
    cases e2 : dgB T (p + 1) with
    | false =>
      rw [e2, if_neg Bool.false_ne_true] at h
      by_cases q : lo ≤ dvS T p ∧ dvS T p < cnt
      · rw [if_pos q] at h
        cases h
        exact ⟨q, Nat.lt_succ_self p, d1⟩
      · rw [if_neg q] at h; cases h
    | true =>
      rw [e2, if_pos rfl] at h
      obtain ⟨c1, c2, c3⟩ := dg_is e2
      by_cases q : lo ≤ 10 * dvS T p + dvS T (p + 1) ∧ 10 * dvS T p + dvS T (p + 1) < cnt
      · rw [if_pos q] at h
        cases h
        exact ⟨q, by show p < p + 2; omega, c1⟩
      · rw [if_neg q] at h; cases h
theorem nmS_r {T : Tx} {p lo cnt : Nat} {y : Nat × Nat} (h : nmS T p lo cnt = .inr y) : (lo ≤ y.2 ∧ y.2 < cnt) ∧ p < y.1 ∧ y.1 ≤ T.1 := by
  rw [nm_nd] at h
  cases e : atB T p 32 with
  | false => rw [e, if_neg Bool.false_ne_true] at h; cases h
  | true =>
    rw [e, if_pos rfl] at h
    obtain ⟨h1, h2, h3⟩ := nd_r h
    exact ⟨h1, by omega, h3⟩
theorem X5_highest {v : Wd} {s p c i : Nat} {T : Tx} {D : Cl} (h : RdX v s T D p) (h7 : mnT c i < 7) : fX5_highest 126 (nI (mnT c i)) v = some (nI (ctC D c i) - 1, v) := by
  obtain ⟨r1, r2, r3, r4, r5⟩ := h.1.1.Rd
  have hc := h.1.1.cl (b := 43) (Or.inr (Or.inl rfl))
  obtain ⟨a1, -⟩ := hc.B
  have hx := h.2.2.2.1
  unfold fX5_highest ctC
  generalize mnT c i = n at h7
  simp only [eqL3 (show n < 2147483648 by omega), eqL4 (show n < 2147483648 by omega), eqL5 (show n < 2147483648 by omega), eqL6 (show n < 2147483648 by omega), chk_t r2, h.1.2.2.2, ob_s, chk_t a1, hx.1.1, hx.1.2.1]
  by_cases e3 : n = 3
  · rw [if_pos e3, if_pos e3]; rfl
  · rw [if_neg e3, if_neg e3]
    by_cases e4 : n = 4
    · rw [if_pos e4, if_pos e4]; rfl
    · rw [if_neg e4, if_neg e4]
      by_cases e5 : n = 5
      · rw [if_pos e5, if_pos e5]
      · rw [if_neg e5, if_neg e5]
        by_cases e6 : n = 6
        · rw [if_pos e6, if_pos e6]
        · rw [if_neg e6, if_neg e6]; rfl
def PoS (v : Wd) (N : Nat) (r : Nat ⊕ (Nat × (Nat → Nat))) (n : Nat) (q : Int32 × Wd) : Prop := Fr cRr v q.2 ∧ Sum.elim (fun f => q.1 = 0 ∧ wI q.2 126 0 = nI f) (fun z => q.1 = 1 ∧ wI q.2 126 4 = nI z.1 ∧ wI q.2 126 0 = wI v 126 0 ∧ z.1 ≤ N ∧ ∀ j, j < n → wI q.2 127 j = nI (z.2 j)) r
theorem ct_le {D : Cl} (hI : CI D) (c i : Nat) : ctC D c i ≤ 12 := by
  have h1 : cP D ≤ 6 := hI.1.1
  have h2 : cG D ≤ 8 := hI.1.2
  unfold ctC
  repeat' split
  all_goals omega
theorem lo_le (c i : Nat) : loC c i ≤ 1 := by
  unfold loC
  split
  · decide
  · decide
theorem X5_b50 {w v : Wd} {s p c i : Nat} {T : Tx} {D : Cl} {vs : Nat → Nat} (hc : c < 8) (hi : i < 4) (hf : Fr cRr w v) (h : RdX v s T D p) (h0 : wI v 126 0 = wI w 126 0) (hn : ∀ j, j < i → wI v 127 j = nI (vs j)) (P : Int32 × Wd → Prop) (I : Int32 × Wd → Prop) (h7 : mnT c i < 7)
    (hbad : ∀ f u, ndS T p (loC c i) (ctC D c i) = .inl f → Fr cRr w u → wI u 126 0 = nI f → P (0, u))
    (hok : ∀ y u, ndS T p (loC c i) (ctC D c i) = .inr y → Fr cRr w u → wI u 126 4 = nI y.1 → wI u 126 0 = wI w 126 0 → (∀ j, j < i + 1 → wI u 127 j = nI (upN vs i y.2 j)) → I (nI (i + 1), u)) (lo : Int32) (hlo : lo = nI (loC c i)) :
    Wp (fX5_readNumbers_b50 126 (nI c) (nI i) (nI (mnT c i)) lo 126 (nI i) 127 v) (lp I P) := by
  subst hlo
  obtain ⟨r1, r2, r3, r4, r5⟩ := h.1.1.Rd
  have b4 : inb (nI i) 4 := inb_nI hi (by decide)
  have hct := ct_le h.2.2.2.2.1 c i
  have hlo := lo_le c i
  unfold fX5_readNumbers_b50
  simp only [chk_t r2, X5_highest h h7, ob_s]
  refine Wp_c (X5_readNumber h (show loC c i < 900 by omega) (show ctC D c i < 900 by omega)) (fun q hq => ?_)
  obtain ⟨q1, q2⟩ := hq
  have hsq := q1.r6.shx h.1.1
  obtain ⟨k1, k2, k3, k4, k5⟩ := hsq.Rd
  have efin : wI (sI q.2 127 i q.1) 127 i = q.1 := wI_e _ _ _ _
  simp only [chk_t k4, k5, chk_t b4, nI_clamp (show i < 2 ^ 31 by omega), bnd_e, cO_s, chk_t k2, wR_sI, k3, ob_s, cA_s, wn_sI, efin]
  have hfn : Fr cRr w (sI q.2 127 i q.1) := (hf.trans q1.r6).sI _ (Or.inr rfl)
  cases e : ndS T p (loC c i) (ctC D c i) with
  | inl f =>
    rw [e] at q2
    obtain ⟨q3, q4⟩ := q2
    rw [if_pos q3]
    refine Wp_wr (Wp_of rfl (hbad f _ e hfn ?_))
    rw [wI_n (by omega)]; exact q4
  | inr y =>
    rw [e] at q2
    obtain ⟨q3, q4, q5⟩ := q2
    have hy := (nd_r e).1.2
    have hne : ¬ q.1 = -1 := by rw [q3]; exact nI_m1 (by omega)
    rw [if_neg hne, Wp_l, nI_1]
    refine hok y _ e hfn ?_ ?_ (fun j hj => ?_)
    · rw [wI_n (by omega)]; exact q4
    · rw [wI_n (by omega), q5]; exact h0
    · by_cases r : j = i
      · subst r
        rw [wI_e, upN_e]; exact q3
      · rw [wI_n (by omega), upN_n _ _ r]
        have hj' := hn j (by omega)
        rw [q1.at (by unfold cR6; omega)]
        exact hj'
theorem sq_fin {T : Tx} {D : Cl} {c p i n f : Nat} (h : sqS T D c p i = .inl f) (hi : i ≤ n) : sqS T D c p n = .inl f := by
  have := sq_bad h (n - i)
  rw [Nat.add_sub_of_le hi] at this
  exact this
theorem X5_readNumbers {w : Wd} {s p c : Nat} {T : Tx} {D : Cl} (h : RdX w s T D p) (hc : c < 8) : Wp (fX5_readNumbers 126 (nI c) w) (PoS w T.1 (sqS T D c p (nnC c)) (nnC c)) := by
  have h4 := nn_le c hc
  unfold fX5_readNumbers fX5_readNumbers_L2
  refine it_w1 (fun i v => ∃ z, sqS T D c p i = .inr z ∧ Fr cRr w v ∧ RdX v s T D z.1 ∧ wI v 126 0 = wI w 126 0 ∧ ∀ j, j < i → wI v 127 j = nI (z.2 j)) (nnC c) (by omega) ⟨(p, fun _ => 0), rfl, Fr.refl w, h, rfl, fun j q => absurd q (Nat.not_lt_zero j)⟩ (fun i v hi hv => ?_) (fun v hv => ?_)
  · obtain ⟨z, hz, hf, hr, h0, hn⟩ := hv
    obtain ⟨m1, m2, m3, m4⟩ := mn_ok c hc i (by omega)
    have hm0 : ¬ mnT c i = 0 := fun q => by have := m4.mp q; omega
    obtain ⟨r1, r2, r3, r4, r5⟩ := hr.1.1.Rd
    have e4 : nI c * 4 + nI i = nI (c * 4 + i) := by
      rw [show nI c * 4 = nI (c * 4) from nI_mul c 4, nI_add]
    unfold fX5_readNumbers_L2_body
    simp only [leL4 (show i < 2147483648 by omega), if_neg (show ¬ 4 ≤ i by omega), e4, chk_t m1, m2, bnd_e, eqL0 (show mnT c i < 2147483648 by omega), if_neg hm0, chk_t r2, X5_readSign hr (c := 32) (by decide), ob_s]
    have hs := sq_s hz
    rw [nm_nd] at hs
    cases e : atB T z.1 32 with
    | false =>
      rw [e, if_neg Bool.false_ne_true] at hs
      simp only [if_neg Bool.false_ne_true, if_true]
      refine Wp_wr (Wp_of rfl ⟨hf.sI _ (Or.inl rfl), ?_⟩)
      rw [sq_fin hs hi]
      exact ⟨rfl, wI_e _ _ _ _⟩
    | true =>
      have hat := atB_iff.mp e
      rw [e, if_pos rfl] at hs
      have hf1 : Fr cRr v (sI v 126 4 (nI (z.1 + 1))) := Fr_sI _ (Or.inl rfl)
      have hr1 := hr.go hf1 (wI_e _ _ _ _) (show z.1 + 1 ≤ T.1 from hat.1)
      obtain ⟨k1, k2, k3, k4, k5⟩ := hr1.1.1.Rd
      have h01 : wI (sI v 126 4 (nI (z.1 + 1))) 126 0 = wI w 126 0 := by rw [wI_n (by omega)]; exact h0
      have hn1 : ∀ j, j < i → wI (sI v 126 4 (nI (z.1 + 1))) 127 j = nI (z.2 j) := fun j hj => by rw [wI_n (by omega)]; exact hn j hj
      simp only [if_true, if_neg n10, chk_t k2, k3, ob_s, eqL2 (show mnT c i < 2147483648 by omega)]
      have go : ∀ lo : Int32, lo = nI (loC c i) → Wp (fX5_readNumbers_b50 126 (nI c) (nI i) (nI (mnT c i)) lo 126 (nI i) 127 (sI v 126 4 (nI (z.1 + 1)))) (lp (fun s' => s'.1 = nI (i + 1) ∧ ∃ z', sqS T D c p (i + 1) = .inr z' ∧ Fr cRr w s'.2 ∧ RdX s'.2 s T D z'.1 ∧ wI s'.2 126 0 = wI w 126 0 ∧ ∀ j, j < i + 1 → wI s'.2 127 j = nI (z'.2 j)) (PoS w T.1 (sqS T D c p (nnC c)) (nnC c))) := fun lo hlo => by
        refine X5_b50 hc (by omega) (hf.trans hf1) hr1 h01 hn1 _ _ m3 (fun f u q1 q2 q3 => ?_) (fun y u q1 q2 q3 q4 q5 => ?_) lo hlo
        · rw [q1] at hs
          refine ⟨q2, ?_⟩
          rw [sq_fin hs hi]
          exact ⟨rfl, q3⟩
        · rw [q1] at hs
          have hy := nd_r q1
          refine ⟨rfl, (y.1, upN z.2 i y.2), hs, q2, ?_, q4, q5⟩
          exact h.go q2 q3 hy.2.2
      by_cases e2 : mnT c i = 2
      · rw [if_pos e2]
        exact go 1 (by unfold loC; rw [if_pos e2]; rfl)
      · rw [if_neg e2]
        exact go 0 (by unfold loC; rw [if_neg e2]; rfl)
  · obtain ⟨z, hz, hf, hr, h0, hn⟩ := hv
    have fin : PoS w T.1 (sqS T D c p (nnC c)) (nnC c) (1, v) := by
      refine ⟨hf, ?_⟩
      rw [hz]
      exact ⟨rfl, hr.2.1, h0, hr.2.2.2.2.2, hn⟩
    unfold fX5_readNumbers_L2_body
    by_cases q : nnC c = 4
    · simp only [leL4 (show nnC c < 2147483648 by omega), if_pos (show 4 ≤ nnC c by omega)]
      exact Wp_wr (Wp_of rfl fin)
    · obtain ⟨m1, m2, m3, m4⟩ := mn_ok c hc (nnC c) (by omega)
      have hm0 : mnT c (nnC c) = 0 := m4.mpr (Nat.le_refl _)
      have e4 : nI c * 4 + nI (nnC c) = nI (c * 4 + nnC c) := by
        rw [show nI c * 4 = nI (c * 4) from nI_mul c 4, nI_add]
      simp only [leL4 (show nnC c < 2147483648 by omega), if_neg (show ¬ 4 ≤ nnC c by omega), e4, chk_t m1, m2, bnd_e, hm0, eqL0 (show 0 < 2147483648 by decide), if_true]
      exact Wp_wr (Wp_of rfl fin)
theorem sq_rg {T : Tx} {D : Cl} {c p : Nat} (hp : p ≤ T.1) : ∀ n z, sqS T D c p n = .inr z → (p ≤ z.1 ∧ z.1 ≤ T.1) ∧ ∀ j, j < n → loC c j ≤ z.2 j ∧ z.2 j < ctC D c j
  | 0, z, h => by
    cases h
    exact ⟨⟨Nat.le_refl p, hp⟩, fun j q => absurd q (Nat.not_lt_zero j)⟩
  | n + 1, z, h => by
    cases e : sqS T D c p n with
    | inl f =>
      rw [sq_fin e (Nat.le_succ n)] at h
      cases h
    | inr y =>
      obtain ⟨⟨h1, h2⟩, h3⟩ := sq_rg hp n y e
      rw [sq_s e] at h
      cases e2 : nmS T y.1 (loC c n) (ctC D c n) with
      | inl f => rw [e2] at h; cases h
      | inr u =>
        rw [e2] at h
        cases h
        obtain ⟨k1, k2, k3⟩ := nmS_r e2
        refine ⟨⟨?_, k3⟩, fun j hj => ?_⟩
        · show p ≤ u.1
          omega
        · by_cases r : j = n
          · subst r
            show loC c j ≤ upN y.2 j u.2 j ∧ upN y.2 j u.2 j < ctC D c j
            rw [upN_e]; exact k1
          · show loC c j ≤ upN y.2 n u.2 j ∧ upN y.2 n u.2 j < ctC D c j
            rw [upN_n _ _ r]; exact h3 j (by omega)
/-! a word -/
def PoW (v : Wd) (N p : Nat) (r : Nat ⊕ Nat) (q : Int32 × Wd) : Prop := Fr cR6 v q.2 ∧ Sum.elim (fun f => q.1 = -1 ∧ wI q.2 126 0 = nI f) (fun c => q.1 = nI c ∧ wI q.2 126 4 = nI (p + lnN c) ∧ wI q.2 126 0 = wI v 126 0 ∧ p + lnN c ≤ N) r
theorem cand_off {T : Tx} {p c i : Nat} (hcd : cand T p = c) (hc : c < 8) (hi : i < lnN c) (hne : ¬ At T (p + i) (lt c i)) : wgS (mkT c i) i (sX T (p + i)) = 0 := by
  obtain ⟨c1, c2, c3, c4, c5, c6⟩ := cand_is hcd
  have hl := (ln_le c hc).1
  refine wg_off (fun j hj ht hlj q => ?_)
  have hat : At T (p + i) (lt j i) := (sX_at (lt_pos j hj i hlj).1).mp q.symm
  by_cases e0 : i = 0
  · subst e0
    exact hne (c1 hc)
  · rcases mk_bit c hc i (by omega) (by omega) j hj ht with r | ⟨r1, r2⟩
    · rw [r] at hat; exact hne hat
    · subst r1
      rcases r2 with ⟨ra, rb⟩ | ⟨ra, rb⟩ | ⟨ra, rb⟩ | ⟨ra, rb⟩
      · subst rb; exact c3 ra hat
      · subst ra; exact hne (c4 rfl)
      · subst rb; exact c5 ra hat
      · subst ra; exact hne (c6 rfl)
theorem X5_readWord {w : Wd} {s p : Nat} {T : Tx} {D : Cl} (h : RdX w s T D p) : Wp (fX5_readWord 126 w) (PoW w T.1 p (wdS T p)) := by
  unfold fX5_readWord fX5_readWord_L6
  have hT := h.l
  have hcl := cand_le T p
  by_cases hc8 : cand T p = 8
  · obtain ⟨r1, r2, r3, r4, r5⟩ := h.1.1.Rd
    obtain ⟨s1, s2, s3, s4, s5⟩ := h.1.1.S h.1.2.1
    have hp := h.2.2.2.2.2
    have c2 := (cand_is hc8).2.1 rfl
    have hw : wgS 255 0 (sX T p) = 0 := wg_off (fun j hj _ hlj q => c2 j hj ((sX_at (lt_pos j hj 0 hlj).1).mp q.symm))
    have hg : fX5_wordsGoingOn 255 0 (sX T p) w = some (0, w) := by
      have := X5_goingOn (m := 255) (at' := 0) (by decide) (by decide) (sX T p) w
      rw [hw] at this
      exact this
    refine it_wp (fun _ st => st = (255, 0, w)) 0 (by decide) (fun i st hi _ => absurd hi (Nat.not_lt_zero i)) (fun st hst => ?_) rfl
    subst hst
    unfold fX5_readWord_L6_body
    simp only [if_neg (show ¬ (7 : Int32) ≤ 0 by decide), chk_t r2, h.1.2.2.1, ob_s, chk_t s2, h.2.1, h.at (show p < 2147483648 by omega), hg, if_true, bnd_e]
    refine Wp_wr (Wp_of rfl ⟨Fr_sI _ rfl, ?_⟩)
    unfold wdS
    rw [if_pos hc8]
    exact ⟨rfl, wI_e _ _ _ _⟩
  · have hc : cand T p < 8 := by omega
    obtain ⟨hl7, hl3⟩ := ln_le _ hc
    have key : ∀ i x v, i < lnN (cand T p) → (x = nI (mkT (cand T p) i) ∧ Fr cR6 w v ∧ RdX v s T D (p + i) ∧ wI v 126 0 = wI w 126 0 ∧ ∀ j, j < i → At T (p + j) (lt (cand T p) j)) → ∀ I : Int32 × Int32 × Wd → Prop, (i + 1 < lnN (cand T p) → ∀ v', At T (p + i) (lt (cand T p) i) → Fr cR6 w v' → RdX v' s T D (p + (i + 1)) → wI v' 126 0 = wI w 126 0 → I (nI (mkT (cand T p) (i + 1)), nI (i + 1), v')) → Wp (fX5_readWord_L6_body 126 (x, nI i, v)) (lp I (PoW w T.1 p (wdS T p))) := fun i x v hi hv I hI => by
      obtain ⟨rfl, hf, hr, h0, hn⟩ := hv
      obtain ⟨r1, r2, r3, r4, r5⟩ := hr.1.1.Rd
      obtain ⟨s1, s2, s3, s4, s5⟩ := hr.1.1.S hr.1.2.1
      have hp := hr.2.2.2.2.2
      unfold fX5_readWord_L6_body
      simp only [leL7 (show i < 2147483648 by omega), if_neg (show ¬ 7 ≤ i by omega), chk_t r2, hr.1.2.2.1, ob_s, chk_t s2, hr.2.1, hr.at (show p + i < 2147483648 by omega), X5_goingOn (mk_lt _ hc i (by omega)) (show i < 8 by omega)]
      by_cases e : At T (p + i) (lt (cand T p) i)
      · obtain ⟨g1, g2, g3⟩ := wg_on _ hc i (by omega) hi
        have es : sX T (p + i) = lt (cand T p) i := (sX_at (lt_pos _ hc i hi).1).mpr e
        have hmk := mk_lt _ hc (i + 1) (by omega)
        have hf1 : Fr cR6 w (sI v 126 4 (nI (p + i + 1))) := hf.sI _ rfl
        have hr1 : RdX (sI v 126 4 (nI (p + i + 1))) s T D (p + (i + 1)) := hr.go (Fr_sI _ (Or.inl rfl)) (wI_e _ _ _ _) (show p + (i + 1) ≤ T.1 from e.1)
        have h01 : wI (sI v 126 4 (nI (p + i + 1))) 126 0 = wI w 126 0 := by rw [wI_n (by omega)]; exact h0
        simp only [es, g1, eqL0 (show mkT (cand T p) (i + 1) < 2147483648 by omega), if_neg g3, chk_t r2, nI_1, bnd_e, X5_ending hmk (show i < 8 by omega), g2, ob_s]
        by_cases e2 : i + 1 = lnN (cand T p)
        · simp only [if_pos e2, if_pos hc, if_neg (nI_m1 (show cand T p < 2147483648 by omega))]
          refine Wp_wr (Wp_of rfl ⟨hf1, ?_⟩)
          have hm : mtS T p (cand T p) = lnN (cand T p) := fI_all (fun j hj => by
            have hat : At T (p + j) (lt (cand T p) j) := by
              by_cases r : j = i
              · rw [r]; exact e
              · exact hn j (by omega)
            show (!atB T (p + j) (lt (cand T p) j)) = false
            rw [atB_iff.mpr hat]; rfl)
          unfold wdS
          rw [if_neg hc8, hm, if_neg (Nat.lt_irrefl _)]
          refine ⟨rfl, ?_, h01, ?_⟩
          · rw [← e2]; exact hr1.2.1
          · rw [← e2]; exact hr1.2.2.2.2.2
        · simp only [if_neg e2, if_neg (show ¬ (8 : Nat) < 8 by decide), if_true, Wp_l]
          exact hI (by omega) _ e hf1 hr1 h01
      · simp only [cand_off rfl hc hi e, show nI 0 = 0 from rfl, if_true, chk_t r2, bnd_e, hr.2.1]
        refine Wp_wr (Wp_of rfl ⟨hf.sI _ rfl, ?_⟩)
        have hm : mtS T p (cand T p) = i := fI_eq hi (fun j hj => by
          show (!atB T (p + j) (lt (cand T p) j)) = false
          rw [atB_iff.mpr (hn j hj)]; rfl) (by
          show (!atB T (p + i) (lt (cand T p) i)) = true
          rw [atB_f e]; rfl)
        unfold wdS
        rw [if_neg hc8, hm, if_pos hi]
        exact ⟨rfl, wI_e _ _ _ _⟩
    refine it_w2 (fun i x v => x = nI (mkT (cand T p) i) ∧ Fr cR6 w v ∧ RdX v s T D (p + i) ∧ wI v 126 0 = wI w 126 0 ∧ ∀ j, j < i → At T (p + j) (lt (cand T p) j)) (lnN (cand T p) - 1) (by omega) ⟨rfl, Fr.refl w, h, rfl, fun j q => absurd q (Nat.not_lt_zero j)⟩ (fun i x v hi hv => ?_) (fun x v hv => ?_)
    · refine key i x v (by omega) hv _ (fun _ v' q0 q1 q2 q3 => ⟨rfl, rfl, q1, q2, q3, fun j hj => ?_⟩)
      by_cases r : j = i
      · rw [r]; exact q0
      · exact hv.2.2.2.2 j (by omega)
    · exact key _ x v (by omega) hv _ (fun q => absurd q (by omega))
