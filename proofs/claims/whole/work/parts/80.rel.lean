/-! the two sides together -/
def ShE (x m : Wd) (n s : Nat) : Prop := wI x (135 + 2 * s) 2 = wI m 1 s ∧ (wI m 1 s = -1 ∨ (∃ g, g < n ∧ wI m 1 s = nI g) ∨ ∃ k l, k < 4 ∧ l ≤ 160 ∧ wI m 1 s = nI (100 + k) ∧ wI x (135 + 2 * s) 1 = nI l ∧ wI m 2 s = nI l ∧ ∀ i, i < l → wL x (136 + 2 * s) i = wL m 3 (160 * s + i))
def ImE (x m : Wd) : Prop := (wI x 0 9 = 0 ∧ wI m 0 18 = 0) ∨ ((wI x 0 9 = 1 ∧ wI m 0 18 = 1) ∧ ∃ D v, CI D ∧ IsX x 83 D ∧ Kp (wI m 13) v ∧ IsM v D)
def TrE (x m : Wd) : Prop := ∃ t, t < 1000 ∧ wI x 133 0 = nI t ∧ wI m 0 16 = nI t ∧ ∀ i, i < t → i < 20 → wI x 134 i = wI m 12 i
def RelC (C : Cl) (x m : Wd) : Prop := (ShX x ∧ ShM m ∧ CI C ∧ IsX x 3 C ∧ IsM m C) ∧ ImE x m ∧ (∀ s, s < 8 → ShE x m (cG C) s) ∧ (∀ i, 1 ≤ i → i < 8 → wI x 2 i = wI m 11 i) ∧ wI x 0 10 = wI m 0 14 ∧ TrE x m
def Rel (x m : Wd) : Prop := ∃ C, RelC C x m
def E2 {α : Type} (o p : Option (α × Wd)) : Prop := ∃ r x m, o = some (r, x) ∧ p = some (r, m) ∧ Rel x m
theorem E2_eq {α : Type} {r : α} {x m : Wd} (h : Rel x m) : E2 (some (r, x)) (some (r, m)) := ⟨r, x, m, rfl, rfl, h⟩
theorem E2_of {α : Type} {o p : Option (α × Wd)} {r : α} {X M : Wd → Prop} (h1 : Wp o (fun q => q.1 = r ∧ X q.2)) (h2 : Wp p (fun q => q.1 = r ∧ M q.2)) (h : ∀ x m, X x → M m → Rel x m) : E2 o p := by
  obtain ⟨⟨a, x⟩, e1, r1, x1⟩ := h1
  obtain ⟨⟨b, m⟩, e2, r2, m1⟩ := h2
  have r1 : a = r := r1
  have r2 : b = r := r2
  subst r1
  subst r2
  exact ⟨_, x, m, e1, e2, h x m x1 m1⟩
theorem ob_eta {α : Type} (o : Option (α × Wd)) : ob o (fun q => some (q.1, q.2)) = o := by
  cases o with
  | none => rfl
  | some a => rfl
def cXx (a _ : Nat) : Prop := (3 ≤ a ∧ a < 83) ∨ (123 ≤ a ∧ a ≤ 132)
theorem RelC.step {C C' : Cl} {x m x' m' : Wd} (h : RelC C x m) (hs : ShX x') (hL : wL x' = wL x) (hf : ∀ a i, ¬ cXx a i → wI x' a i = wI x a i) (hx : IsX x' 3 C') (hg : Fr cMx m m') (hxm : IsM m' C') (hI : CI C') (hle : cG C ≤ cG C') : RelC C' x' m' := by
  obtain ⟨⟨r1, r2, r3, r4, r5⟩, r6, r7, r8, r9, r10⟩ := h
  refine ⟨⟨hs, hg.shm r2, hI, hx, hxm⟩, ?_, fun s h8 => ?_, fun i h1 h2 => ?_, ?_, ?_⟩
  · unfold ImE
    rw [hf 0 9 (by unfold cXx; omega), hg.at (by unfold cMx; omega)]
    rcases r6 with r6 | ⟨r6, D, v, q1, q2, q3, q4⟩
    · exact Or.inl r6
    · refine Or.inr ⟨r6, D, v, q1, ?_, ?_, q4⟩
      · have hP : cP D ≤ 6 := q1.1.1
        have hG : cG D ≤ 8 := q1.1.2
        refine ⟨⟨?_, ?_, ?_, ?_⟩, fun q hq => ?_, fun j hj => ?_⟩
        · rw [hf _ _ (by unfold cXx; omega)]; exact q2.1.1
        · rw [hf _ _ (by unfold cXx; omega)]; exact q2.1.2.1
        · rw [hf _ _ (by unfold cXx; omega)]; exact q2.1.2.2.1
        · rw [hf _ _ (by unfold cXx; omega)]; exact q2.1.2.2.2
        · obtain ⟨h1, h2⟩ := q2.2.1 q hq
          refine ⟨?_, fun i hi => ?_⟩
          · rw [hf _ _ (by unfold cXx pA; omega)]; exact h1
          · rw [hf _ _ (by unfold cXx pA; omega)]; exact h2 i hi
        · obtain ⟨⟨h1, h2, h3⟩, h4⟩ := q2.2.2 j hj
          refine ⟨⟨?_, ?_, ?_⟩, fun i hi => ⟨?_, ?_⟩⟩
          · rw [hf _ _ (by unfold cXx gA; omega)]; exact h1
          · rw [hf _ _ (by unfold cXx gA; omega)]; exact h2
          · rw [hf _ _ (by unfold cXx gA; omega)]; exact h3
          · rw [hf _ _ (by unfold cXx gA; omega)]; exact (h4 i hi).1
          · rw [hf _ _ (by unfold cXx gA; omega)]; exact (h4 i hi).2
      · have e : wI m' 13 = wI m 13 := funext fun i => hg.at (by unfold cMx; omega)
        rw [e]; exact q3
  · obtain ⟨s1, s2⟩ := r7 s h8
    unfold ShE
    rw [hf _ _ (by unfold cXx; omega), hf _ _ (by unfold cXx; omega), hL, hg.L, hg.at (by unfold cMx; omega), hg.at (by unfold cMx; omega)]
    refine ⟨s1, ?_⟩
    rcases s2 with s2 | ⟨g, s2, s3⟩ | s2
    · exact Or.inl s2
    · exact Or.inr (Or.inl ⟨g, by omega, s3⟩)
    · exact Or.inr (Or.inr s2)
  · rw [hf _ _ (by unfold cXx; omega), hg.at (by unfold cMx; omega)]
    exact r8 i h1 h2
  · rw [hf _ _ (by unfold cXx; omega), hg.at (by unfold cMx; omega)]
    exact r9
  · obtain ⟨t, t1, t2, t3, t4⟩ := r10
    refine ⟨t, t1, ?_, ?_, fun i h1 h2 => ?_⟩
    · rw [hf _ _ (by unfold cXx; omega)]; exact t2
    · rw [hg.at (by unfold cMx; omega)]; exact t3
    · rw [hf _ _ (by unfold cXx; omega), hg.at (by unfold cMx; omega)]; exact t4 i h1 h2
theorem RelC.fr {C C' : Cl} {x m x' m' : Wd} (h : RelC C x m) (hf : Fr cXx x x') (hx : IsX x' 3 C') (hg : Fr cMx m m') (hxm : IsM m' C') (hI : CI C') (hle : cG C ≤ cG C') : Rel x' m' :=
  ⟨C', h.step (hf.shx h.1.1) hf.L (fun a i q => hf.at q) hx hg hxm hI hle⟩
theorem cXx_3 {a i : Nat} (h : cCl 3 a i) : cXx a i := Or.inl ⟨h.1, by have := h.2; omega⟩
theorem cXx_43 {a i : Nat} (h : cCl 43 a i) : cXx a i := Or.inl ⟨by have := h.1; omega, by have := h.2; omega⟩
theorem cXx_123 {a i : Nat} (h : cG3 123 a i) : cXx a i := Or.inr ⟨h.1, by have := h.2; omega⟩
/-- x's own closet stays: what else changes is scratch -/
theorem RelC.same {C : Cl} {x m x' m' : Wd} (h : RelC C x m) (hf : Fr cXx x x') (hf3 : Fr (fun a _ => 43 ≤ a) x x') (hg : Fr cMx m m') (hxm : IsM m' C) : Rel x' m' :=
  h.fr hf (h.1.2.2.2.1.fr h.1.2.2.1 hf3 (fun a i q => by omega)) hg hxm h.1.2.2.1 (Nat.le_refl _)
/-! refusals -/
theorem X7_refuse {x : Wd} (hs : ShX x) {c : Int32} {k : Nat} (hc : -c = nI k) (h8 : k < 8) : fX7_refuse 0 c x = some (c, sI x 2 k (wI x 2 k + 1)) := by
  obtain ⟨t1, t2, t3, t4, t5, t6, t7, t8, t9⟩ := hs.T
  obtain ⟨b1, b2⟩ := inb8 h8
  unfold fX7_refuse
  simp only [chk_t t1, t3, ob_s, chk_t t8, t9, hc, chk_t b1, b2, bnd_e]
theorem X8_no {m : Wd} (hs : ShM m) {c : Int32} {k : Nat} (hc : -c = nI k) (h8 : k < 8) : fX8_no 0 c m = some (c, sI m 11 k (wI m 11 k + 1)) := by
  obtain ⟨e1, e2, e3⟩ := hs.a11
  obtain ⟨b1, b2⟩ := inb8 h8
  unfold fX8_no
  simp only [chk_t hs.O, e1, ob_s, chk_t e2, e3, hc, chk_t b1, b2, bnd_e]
theorem RelC.no {C : Cl} {x m : Wd} (h : RelC C x m) {k : Nat} (h1 : 1 ≤ k) (h8 : k < 8) : Rel (sI x 2 k (wI x 2 k + 1)) (sI m 11 k (wI m 11 k + 1)) := by
  obtain ⟨⟨r1, r2, r3, r4, r5⟩, r6, r7, r8, r9, r10⟩ := h
  have fx : Fr (fun a _ => a = 2) x (sI x 2 k (wI x 2 k + 1)) := Fr_sI _ rfl
  have fm : Fr (fun a _ => a = 11) m (sI m 11 k (wI m 11 k + 1)) := Fr_sI _ rfl
  refine ⟨C, ⟨r1, r2, r3, r4.fr r3 fx (fun a i q => by omega), r5.fr fm (fun a i q => by omega)⟩, ?_, fun s h8 => ?_, fun i h1 h2 => ?_, ?_, ?_⟩
  · unfold ImE
    rw [fx.at (by omega), fm.at (by omega)]
    rcases r6 with r6 | ⟨r6, D, v, q1, q2, q3, q4⟩
    · exact Or.inl r6
    · refine Or.inr ⟨r6, D, v, q1, q2.fr q1 fx (fun a i q => by omega), ?_, q4⟩
      rw [wI_ne (by decide)]
      exact q3
  · unfold ShE
    rw [fx.at (by omega), fx.at (by omega), fm.at (by omega), fm.at (by omega)]
    exact r7 s h8
  · by_cases e : i = k
    · subst e
      rw [wI_e, wI_e, r8 i h1 h2]
    · rw [wI_n (by omega), wI_n (by omega)]
      exact r8 i h1 h2
  · rw [fx.at (by omega), fm.at (by omega)]
    exact r9
  · obtain ⟨t, t1, t2, t3, t4⟩ := r10
    refine ⟨t, t1, ?_, ?_, fun i h1 h2 => ?_⟩
    · rw [fx.at (by omega)]; exact t2
    · rw [fm.at (by omega)]; exact t3
    · rw [fx.at (by omega), fm.at (by omega)]; exact t4 i h1 h2
theorem RelC.r {C : Cl} {x m : Wd} (h : RelC C x m) {c : Int32} {k : Nat} (hc : -c = nI k) (h1 : 1 ≤ k) (h8 : k < 8) : E2 (fX7_refuse 0 c x) (fX8_no 0 c m) := by
  rw [X7_refuse h.1.1 hc h8, X8_no h.1.2.1 hc h8]
  exact E2_eq (h.no h1 h8)
theorem RelC.rl {C : Cl} {x m : Wd} (h : RelC C x m) {c : Int32} {k : Nat} (hc : -c = nI k) (h1 : 1 ≤ k) (h8 : k < 8) : E2 (fX7_refuseLower 0 c x) (fX8_no10 0 c m) := by
  unfold fX7_refuseLower fX8_no10
  rw [X7_refuse h.1.1 hc h8, X8_no h.1.2.1 hc h8, chk_t h.1.1.T.1, chk_t h.1.2.1.O]
  exact E2_eq (h.no h1 h8)
theorem RelC.r1 {C : Cl} {x m : Wd} (h : RelC C x m) : E2 (fX7_refuse 0 (-1) x) (fX8_no 0 (-1) m) := h.r (k := 1) rfl (by decide) (by decide)
theorem RelC.l1 {C : Cl} {x m : Wd} (h : RelC C x m) : E2 (fX7_refuseLower 0 (-1) x) (fX8_no10 0 (-1) m) := h.rl (k := 1) rfl (by decide) (by decide)
theorem RelC.r2 {C : Cl} {x m : Wd} (h : RelC C x m) : E2 (fX7_refuse 0 (-2) x) (fX8_no 0 (-2) m) := h.r (k := 2) rfl (by decide) (by decide)
theorem RelC.l2 {C : Cl} {x m : Wd} (h : RelC C x m) : E2 (fX7_refuseLower 0 (-2) x) (fX8_no10 0 (-2) m) := h.rl (k := 2) rfl (by decide) (by decide)
theorem RelC.r3 {C : Cl} {x m : Wd} (h : RelC C x m) : E2 (fX7_refuse 0 (-3) x) (fX8_no 0 (-3) m) := h.r (k := 3) rfl (by decide) (by decide)
theorem RelC.l3 {C : Cl} {x m : Wd} (h : RelC C x m) : E2 (fX7_refuseLower 0 (-3) x) (fX8_no10 0 (-3) m) := h.rl (k := 3) rfl (by decide) (by decide)
theorem RelC.r4 {C : Cl} {x m : Wd} (h : RelC C x m) : E2 (fX7_refuse 0 (-4) x) (fX8_no 0 (-4) m) := h.r (k := 4) rfl (by decide) (by decide)
theorem RelC.l4 {C : Cl} {x m : Wd} (h : RelC C x m) : E2 (fX7_refuseLower 0 (-4) x) (fX8_no10 0 (-4) m) := h.rl (k := 4) rfl (by decide) (by decide)
theorem RelC.r5 {C : Cl} {x m : Wd} (h : RelC C x m) : E2 (fX7_refuse 0 (-5) x) (fX8_no 0 (-5) m) := h.r (k := 5) rfl (by decide) (by decide)
theorem RelC.l5 {C : Cl} {x m : Wd} (h : RelC C x m) : E2 (fX7_refuseLower 0 (-5) x) (fX8_no10 0 (-5) m) := h.rl (k := 5) rfl (by decide) (by decide)
theorem RelC.r6 {C : Cl} {x m : Wd} (h : RelC C x m) : E2 (fX7_refuse 0 (-6) x) (fX8_no 0 (-6) m) := h.r (k := 6) rfl (by decide) (by decide)
theorem RelC.l6 {C : Cl} {x m : Wd} (h : RelC C x m) : E2 (fX7_refuseLower 0 (-6) x) (fX8_no10 0 (-6) m) := h.rl (k := 6) rfl (by decide) (by decide)
theorem RelC.r7 {C : Cl} {x m : Wd} (h : RelC C x m) : E2 (fX7_refuse 0 (-7) x) (fX8_no 0 (-7) m) := h.r (k := 7) rfl (by decide) (by decide)
theorem RelC.l7 {C : Cl} {x m : Wd} (h : RelC C x m) : E2 (fX7_refuseLower 0 (-7) x) (fX8_no10 0 (-7) m) := h.rl (k := 7) rfl (by decide) (by decide)
theorem rgN {x : Int32} {a b : Nat} (hb : b < 2147483647) (h : nI a ≤ x ∧ x ≤ nI b) (ha : a ≤ b) : ∃ h, a ≤ h ∧ h ≤ b ∧ x = nI h := by
  have h0 : ¬ x < 0 := fun q => by
    have h1 : (0 : Int32) ≤ nI a := by
      have := leL0 (show a < 2147483648 by omega)
      rw [this]
      exact Nat.zero_le a
    exact absurd (Int32.lt_of_le_of_lt (Int32.le_trans h1 h.1) q) Int32.lt_irrefl
  have hn : isN x (b + 1) := by
    rw [← rngN (n := b + 1) (by omega)]
    refine ⟨(le0 x).mpr h0, ?_⟩
    rw [← nI_add b 1]
    have : nI b + nI 1 - 1 = nI b := Int32.add_sub_cancel _ _
    rw [this]
    exact h.2
  obtain ⟨k, hk, rfl⟩ := isN_ex hn
  refine ⟨k, ?_, by omega, rfl⟩
  have := h.1
  rw [nI_le_iff (by omega) (by omega)] at this
  exact this
