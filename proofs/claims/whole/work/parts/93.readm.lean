/-! reading in the model -/
def cM5 (a i : Nat) : Prop := a = 0 ∧ i = 25
def cMj (j a i : Nat) : Prop := (a = 0 ∧ i = 25) ∨ (a = 18 ∧ i = j)
def cMr (a i : Nat) : Prop := (a = 0 ∧ i = 25) ∨ a = 18
theorem Fr.m5 {w w' : Wd} (h : Fr cM5 w w') : Fr cMr w w' := h.mono (fun _ _ q => Or.inl q)
theorem Fr.mj {w w' : Wd} {j : Nat} (h : Fr (cMj j) w w') : Fr cMr w w' := h.mono (fun _ _ q => q.imp id (fun r => r.1))
def RdM (v : Wd) (s : Nat) (T : Tx) (D : Cl) (p : Nat) : Prop := (ShM v ∧ s < 8 ∧ wI v 0 24 = nI s) ∧ wI v 0 25 = nI p ∧ TM v s T.1 T.2 ∧ IsM v D ∧ CI D ∧ p ≤ T.1
theorem RdM.go {v u : Wd} {s p p' : Nat} {T : Tx} {D : Cl} (h : RdM v s T D p) (hf : Fr cMr v u) (hp : wI u 0 25 = nI p') (hl : p' ≤ T.1) : RdM u s T D p' := by
  obtain ⟨⟨h1, h2, h3⟩, h5, h6, h7, h8, h9⟩ := h
  refine ⟨⟨hf.shm h1, h2, ?_⟩, hp, h6.fr hf (by unfold cMr; omega), h7.fr hf (fun a i q => by unfold cMr at q; omega), h8, hl⟩
  rw [hf.at (by unfold cMr; omega)]; exact h3
theorem RdM.l {v : Wd} {s p : Nat} {T : Tx} {D : Cl} (h : RdM v s T D p) : T.1 ≤ 160 := h.2.2.1.1.1
theorem X8_sign {v : Wd} {s p : Nat} {T : Tx} {D : Cl} (h : RdM v s T D p) : fX8_sign 0 v = some (sM T p, v) := by
  obtain ⟨⟨h1, h2, h3⟩, h5, h6, h7, h8, h9⟩ := id h
  have hl := h.l
  obtain ⟨e1, e2, e3⟩ := h1.a2
  obtain ⟨f1, f2, f3⟩ := h1.a3
  obtain ⟨b1, b2⟩ := inb8 h2
  unfold fX8_sign fX8_sign_b39
  simp only [chk_t h1.O, e1, ob_s, chk_t e2, e3, h3, chk_t b1, b2, h6.1.2, h5, nI_le_iff (show T.1 < 2147483648 by omega) (show p < 2147483648 by omega), f1, chk_t f2, f3, show (160 : Int32) * nI s = nI (160 * s) from nI_mul 160 s, nI_add]
  unfold sM
  by_cases e : p < T.1
  · simp only [if_neg (show ¬ T.1 ≤ p by omega), chk_t (inb_nI (show 160 * s + p < 1280 by omega) (by decide)), nI_clamp (show 160 * s + p < 2 ^ 31 by omega), h6.2 p e, if_pos e]
  · simp only [if_pos (show T.1 ≤ p by omega), if_neg e]
theorem X8_is {v : Wd} {s p : Nat} {T : Tx} {D : Cl} (h : RdM v s T D p) {c : Int32} (hc : ¬ c = -1) : fX8_is 0 c v = some (if atB T p c then (1, sI v 0 25 (nI (p + 1))) else (0, v)) := by
  unfold fX8_is
  simp only [chk_t h.1.1.O, X8_sign h, ob_s, h.2.1, bnd_e]
  by_cases e : At T p c
  · rw [if_pos ((sM_at hc).mpr e), if_pos (atB_iff.mpr e), nI_1]
  · rw [if_neg (fun q => e ((sM_at hc).mp q)), atB_f e, if_neg Bool.false_ne_true]
theorem X8_then {v : Wd} {s p : Nat} {T : Tx} {D : Cl} (h : RdM v s T D p) (c : Int32) : fX8_then 0 c v = some (if atB T (p + 1) c then 1 else 0, v) := by
  obtain ⟨⟨h1, h2, h3⟩, h5, h6, h7, h8, h9⟩ := id h
  have hl := h.l
  obtain ⟨e1, e2, e3⟩ := h1.a2
  obtain ⟨f1, f2, f3⟩ := h1.a3
  obtain ⟨b1, b2⟩ := inb8 h2
  unfold fX8_then fX8_then_b47 fX8_then_b48
  simp only [chk_t h1.O, e1, ob_s, chk_t e2, e3, h3, chk_t b1, b2, h6.1.2, h5, nI_1, nI_le_iff (show T.1 < 2147483648 by omega) (show p + 1 < 2147483648 by omega), f1, chk_t f2, f3, show (160 : Int32) * nI s = nI (160 * s) from nI_mul 160 s, nI_add]
  by_cases e : p + 1 < T.1
  · have e7 : 160 * s + p + 1 = 160 * s + (p + 1) := by omega
    simp only [if_neg (show ¬ T.1 ≤ p + 1 by omega), e7, chk_t (inb_nI (show 160 * s + (p + 1) < 1280 by omega) (by decide)), nI_clamp (show 160 * s + (p + 1) < 2 ^ 31 by omega), h6.2 (p + 1) e]
    by_cases e5 : T.2 (p + 1) = c
    · rw [if_pos e5, if_pos (atB_iff.mpr ⟨e, e5⟩)]
      exact c01_1 v
    · rw [if_neg e5, atB_f (fun q => e5 q.2), if_neg Bool.false_ne_true]
      exact c01_0 v
  · rw [if_pos (show T.1 ≤ p + 1 by omega), atB_f (fun q => e q.1), if_neg Bool.false_ne_true]
    exact c01_0 v
theorem ln8 : ∀ c, c < 8 → lnN (8 + c) = lnN c ∧ ∀ i, i < 7 → lt (8 + c) i = lt c i := by decide +kernel
theorem X8_word {w : Wd} {s p c : Nat} {T : Tx} {D : Cl} (h : RdM w s T D p) (hc : c < 8) (hcd : cand T p = c) : Wp (fX8_word 0 (8 + c) w) (fun q => Fr cM5 w q.2 ∧ ((∃ f, wdS T p = .inl f ∧ q.1 = 0 ∧ wI q.2 0 25 = nI f) ∨ (wdS T p = .inr c ∧ q.1 = 1 ∧ RdM q.2 s T D (p + lnN c)))) := by
  obtain ⟨hl7, hl3⟩ := ln_le c hc
  obtain ⟨g1, g2⟩ := ln8 c hc
  have hT := h.l
  unfold fX8_word fX8_word_L2
  refine it_w1 (fun i v => Fr cM5 w v ∧ RdM v s T D (p + i) ∧ ∀ j, j < i → At T (p + j) (lt c j)) (lnN c) (by omega) ⟨Fr.refl w, h, fun j q => absurd q (Nat.not_lt_zero j)⟩ (fun i v hi hv => ?_) (fun v hv => ?_)
  · obtain ⟨hf, hr, hn⟩ := hv
    unfold fX8_word_L2_body
    simp only [J0_len v (8 + c) (by omega), ob_s, chk_t (show 8 + c < 16 by omega), g1, nI_le_iff (show lnN c < 2147483648 by omega) (show i < 2147483648 by omega), if_neg (Nat.not_le.mpr hi), J0_at v (8 + c) (by omega) i (by rw [g1]; exact hi), g2 i (by omega), chk_t hr.1.1.O, X8_is hr (lt_pos c hc i hi).2]
    by_cases e : At T (p + i) (lt c i)
    · simp only [atB_iff.mpr e, if_true, if_neg n10, Wp_l]
      refine ⟨nI_1 i, hf.sI _ ⟨rfl, rfl⟩, hr.go (Fr_sI _ (Or.inl ⟨rfl, rfl⟩)) (wI_e _ _ _ _) e.1, fun j hj => ?_⟩
      by_cases r : j = i
      · rw [r]; exact e
      · exact hn j (by omega)
    · simp only [atB_f e, if_neg Bool.false_ne_true, if_true]
      refine Wp_wr (Wp_of rfl ⟨hf, Or.inl ⟨p + i, ?_, rfl, hr.2.1⟩⟩)
      have hm : mtS T p c = i := fI_eq hi (fun j hj => by
        show (!atB T (p + j) (lt c j)) = false
        rw [atB_iff.mpr (hn j hj)]; rfl) (by
        show (!atB T (p + i) (lt c i)) = true
        rw [atB_f e]; rfl)
      unfold wdS
      rw [hcd, if_neg (by omega), hm, if_pos hi]
  · obtain ⟨hf, hr, hn⟩ := hv
    unfold fX8_word_L2_body
    simp only [J0_len v (8 + c) (by omega), ob_s, chk_t (show 8 + c < 16 by omega), g1, nI_le_iff (show lnN c < 2147483648 by omega) (show lnN c < 2147483648 by omega), if_pos (Nat.le_refl _)]
    refine Wp_wr (Wp_of rfl ⟨hf, Or.inr ⟨?_, rfl, hr⟩⟩)
    have hm : mtS T p c = lnN c := fI_all (fun j hj => by
      show (!atB T (p + j) (lt c j)) = false
      rw [atB_iff.mpr (hn j hj)]; rfl)
    unfold wdS
    rw [hcd, if_neg (by omega), hm, if_neg (Nat.lt_irrefl _)]
theorem X8_word_ {w : Wd} {s p c : Nat} {T : Tx} {D : Cl} (h : RdM w s T D p) (hc : c < 8) (hcd : cand T p = c) (r : Int32) : Wp (fX8_word_ 0 (8 + c) r w) (fun q => Fr cM5 w q.2 ∧ ((∃ f, wdS T p = .inl f ∧ q.1 = 0 ∧ wI q.2 0 25 = nI f) ∨ (wdS T p = .inr c ∧ r = 0 ∧ q.1 = 0 ∧ wI q.2 0 25 = nI p) ∨ (wdS T p = .inr c ∧ ¬ r = 0 ∧ q.1 = 1 ∧ RdM q.2 s T D (p + lnN c)))) := by
  unfold fX8_word_ fX8_word__b26 fX8_word__b39 fX8_word__b40
  simp only [chk_t h.1.1.O, h.2.1, bnd_e]
  refine Wp_c (X8_word h hc hcd) (fun q hq => ?_)
  obtain ⟨q1, q2⟩ := hq
  rcases q2 with ⟨f, q2, q3, q4⟩ | ⟨q2, q3, q4⟩
  · simp only [q3, if_true]
    exact Wp_of (c01_0 _) ⟨q1, Or.inl ⟨f, q2, rfl, q4⟩⟩
  · by_cases e : r = 0
    · simp only [q3, if_neg n10, if_pos e, chk_t q4.1.1.O]
      exact Wp_of (c01_0 _) ⟨q1.sI _ ⟨rfl, rfl⟩, Or.inr (Or.inl ⟨q2, e, rfl, wI_e _ _ _ _⟩)⟩
    · simp only [q3, if_neg n10, if_neg e]
      exact Wp_of (c01_1 _) ⟨q1, Or.inr (Or.inr ⟨q2, e, rfl, q4⟩)⟩
/-! numbers in the model -/
def PoM (v : Wd) (j : Nat) (r : Nat ⊕ (Nat × Nat)) (q : Int32 × Wd) : Prop := Fr (cMj j) v q.2 ∧ Sum.elim (fun f => q.1 = 0 ∧ wI q.2 0 25 = nI f) (fun z => q.1 = 1 ∧ wI q.2 0 25 = nI z.1 ∧ wI q.2 18 j = nI z.2) r
theorem X8_b77 {w v : Wd} {s p i j x lo cnt : Nat} {T : Tx} {D : Cl} (hj : j < 4) (hf : Fr (cMj j) w v) (h : RdM v s T D (p + i)) (hx : x < 900) (hl : lo < 900) (hc : cnt < 900) : Wp (fX8_number_b77 0 (nI j) (nI lo) (nI cnt - 1) (nI p) (nI x) v) (PoM w j (if i = 0 then .inl p else if lo ≤ x ∧ x < cnt then .inr (p + i, x) else .inl p)) := by
  obtain ⟨⟨h1, h2, h3⟩, h5, h6, h7, h8, h9⟩ := id h
  have hT := h.l
  obtain ⟨e1, e2, e3⟩ := h1.a18
  unfold fX8_number_b77 fX8_number_b116
  simp only [chk_t h1.O, h5, nI_eq_iff (show p + i < 2147483648 by omega) (show p < 2147483648 by omega)]
  by_cases e0 : i = 0
  · rw [if_pos (show p + i = p by omega), if_pos e0]
    refine Wp_of rfl ⟨hf, rfl, ?_⟩
    rw [h5, e0]; rfl
  · rw [if_neg (show ¬ p + i = p by omega), if_neg e0]
    simp only [e1, ob_s, chk_t e2, e3, chk_t (inb_nI (show j < 4 from hj) (by decide)), nI_clamp (show j < 2 ^ 31 by omega), bnd_e, X8_within, wi_n hx hl hc, cO_s, chk_t h1.O]
    have hf1 : Fr (cMj j) w (sI v 18 j (nI x)) := hf.sI _ (Or.inr ⟨rfl, rfl⟩)
    by_cases e : lo ≤ x ∧ x < cnt
    · simp only [if_pos e, if_neg n10]
      refine Wp_of (c01_1 _) ⟨hf1, rfl, ?_, wI_e _ _ _ _⟩
      rw [wI_n (by omega)]; exact h5
    · simp only [if_neg e, if_true]
      exact Wp_of (c01_0 _) ⟨hf1.sI _ (Or.inl ⟨rfl, rfl⟩), rfl, wI_e _ _ _ _⟩
noncomputable def vlS (T : Tx) (p i : Nat) : Nat := if i = 0 then 0 else if i = 1 then dvS T p else 10 * dvS T p + dvS T (p + 1)
theorem nd_i {T : Tx} {p lo cnt i : Nat} (h0 : i = 0 → dgB T p = false) (h1 : 1 ≤ i → dgB T p = true) (h2 : i = 1 → dgB T (p + 1) = false) (h3 : 2 ≤ i → dgB T (p + 1) = true) (hi : i ≤ 2) : ndS T p lo cnt = if i = 0 then .inl p else if lo ≤ vlS T p i ∧ vlS T p i < cnt then .inr (p + i, vlS T p i) else .inl p := by
  unfold ndS vlS
  rcases (show i = 0 ∨ i = 1 ∨ i = 2 by omega) with q | q | q <;> subst q
  · rw [h0 rfl, if_neg Bool.false_ne_true, if_pos rfl]
  · rw [h1 (by decide), if_pos rfl, h2 rfl, if_neg Bool.false_ne_true]
    simp only [if_neg (show ¬ (1 : Nat) = 0 by decide), if_true]
  · rw [h1 (by decide), if_pos rfl, h3 (by decide), if_pos rfl]
    simp only [if_neg (show ¬ (2 : Nat) = 0 by decide), if_neg (show ¬ (2 : Nat) = 1 by decide)]
theorem X8_nd {w : Wd} {s p j lo cnt : Nat} {T : Tx} {D : Cl} (hj : j < 4) (h : RdM w s T D p) (hl : lo < 900) (hc : cnt < 900) : Wp (fX8_number_L20 0 (nI j) (nI lo) (nI cnt - 1) (nI p) (0, w)) (PoM w j (ndS T p lo cnt)) := by
  have hT := h.l
  unfold fX8_number_L20
  refine it_wp (fun i st => st.1 = nI (vlS T p i) ∧ Fr cM5 w st.2 ∧ RdM st.2 s T D (p + i) ∧ (1 ≤ i → dgB T p = true) ∧ (2 ≤ i → dgB T (p + 1) = true)) 2 (by decide) (fun i st hi hv => ?_) (fun st hv => ?_) ⟨rfl, Fr.refl w, h, fun q => absurd q (by decide), fun q => absurd q (by decide)⟩
  · obtain ⟨x, v⟩ := st
    obtain ⟨rfl, hf, hr, h1, h2⟩ := hv
    have hf : Fr cM5 w v := hf
    have hr : RdM v s T D (p + i) := hr
    have hp := hr.2.2.2.2.2
    have hfj : Fr (cMj j) w v := hf.mono (fun a i q => Or.inl q)
    have hvl : vlS T p i ≤ 9 := by
      unfold vlS
      by_cases e : i = 0
      · rw [if_pos e]; decide
      · rw [if_neg e, if_pos (show i = 1 by omega)]
        exact (dg_is (h1 (by omega))).2.2
    unfold fX8_number_L20_body
    simp only [chk_t hr.1.1.O, hr.2.1, nI_sub_le (show p ≤ p + i by omega), Nat.add_sub_cancel_left, leL2 (show i < 2147483648 by omega), if_neg (show ¬ 2 ≤ i by omega), X8_sign hr, ob_s]
    have stop : dgB T (p + i) = false → Wp (fX8_number_b77 0 (nI j) (nI lo) (nI cnt - 1) (nI p) (nI (vlS T p i)) v) (PoM w j (ndS T p lo cnt)) := fun e => by
      rw [nd_i (i := i) (fun q => by rw [q] at e; exact e) h1 (fun q => by rw [q] at e; exact e) h2 (by omega)]
      exact X8_b77 hj hfj hr (by omega) hl hc
    have hd := sM_dg T (p + i)
    by_cases c1 : sM T (p + i) < 48
    · rw [if_pos c1]
      refine Wp_wr (stop ?_)
      cases e : dgB T (p + i) with
      | false => rfl
      | true => rw [e] at hd; exact absurd c1 (hd.mpr rfl).1
    · rw [if_neg c1]
      by_cases c2 : 57 < sM T (p + i)
      · rw [if_pos c2]
        refine Wp_wr (stop ?_)
        cases e : dgB T (p + i) with
        | false => rfl
        | true => rw [e] at hd; exact absurd c2 (hd.mpr rfl).2
      · rw [if_neg c2]
        have e : dgB T (p + i) = true := hd.mp ⟨c1, c2⟩
        obtain ⟨d1, d2, d3⟩ := dg_is e
        have ev : (10 : Int32) * nI (vlS T p i) + nI (48 + dvS T (p + i)) - 48 = nI (10 * vlS T p i + dvS T (p + i)) := by
          rw [show (10 : Int32) * nI (vlS T p i) = nI (10 * vlS T p i) from nI_mul 10 _, nI_add, show (48 : Int32) = nI 48 from rfl, nI_sub_le (by omega)]
          exact congrArg nI (by omega)
        have ev2 : 10 * vlS T p i + dvS T (p + i) = vlS T p (i + 1) := by
          unfold vlS
          rcases (show i = 0 ∨ i = 1 by omega) with q | q <;> subst q
          · simp
          · simp
        simp only [sM_v e, ev, ev2, bnd_e, nI_1, Wp_l]
        refine ⟨trivial, hf.sI _ ⟨rfl, rfl⟩, hr.go (Fr_sI _ (Or.inl ⟨rfl, rfl⟩)) (wI_e _ _ _ _) d1, fun q => ?_, fun q => ?_⟩
        · by_cases r : i = 0
          · rw [r] at e; exact e
          · exact h1 (by omega)
        · have r : i = 1 := by omega
          rw [r] at e; exact e
  · obtain ⟨x, v⟩ := st
    obtain ⟨rfl, hf, hr, h1, h2⟩ := hv
    have hf : Fr cM5 w v := hf
    have hr : RdM v s T D (p + 2) := hr
    have hfj : Fr (cMj j) w v := hf.mono (fun a i q => Or.inl q)
    have b1 := (dg_is (h1 (by decide))).2.2
    have b2 := (dg_is (h2 (by decide))).2.2
    have hvl : vlS T p 2 ≤ 99 := by
      show (if (2 : Nat) = 0 then 0 else if (2 : Nat) = 1 then dvS T p else 10 * dvS T p + dvS T (p + 1)) ≤ 99
      rw [if_neg (by decide), if_neg (by decide)]
      omega
    unfold fX8_number_L20_body
    simp only [chk_t hr.1.1.O, hr.2.1, nI_sub_le (show p ≤ p + 2 by omega), Nat.add_sub_cancel_left, leL2 (show 2 < 2147483648 by omega), if_pos (Nat.le_refl 2)]
    refine Wp_wr ?_
    rw [nd_i (i := 2) (fun q => absurd q (by decide)) h1 (fun q => absurd q (by decide)) h2 (Nat.le_refl 2)]
    exact X8_b77 hj hfj hr (by omega) hl hc
theorem X8_number {w : Wd} {s p j lo cnt : Nat} {T : Tx} {D : Cl} (hj : j < 4) (h : RdM w s T D p) (hl : lo < 900) (hc : cnt < 900) : Wp (fX8_number 0 (nI j) (nI lo) (nI cnt - 1) w) (PoM w j (nmS T p lo cnt)) := by
  rw [nm_nd]
  unfold fX8_number
  simp only [chk_t h.1.1.O, X8_is h (c := 32) (by decide), ob_s]
  cases e : atB T p 32 with
  | false =>
    simp only [if_neg Bool.false_ne_true, if_true]
    exact Wp_of rfl ⟨Fr.refl w, rfl, h.2.1⟩
  | true =>
    have hat := atB_iff.mp e
    have hf1 : Fr cM5 w (sI w 0 25 (nI (p + 1))) := Fr_sI _ ⟨rfl, rfl⟩
    have hr := h.go hf1.m5 (wI_e _ _ _ _) (show p + 1 ≤ T.1 from hat.1)
    simp only [if_true, if_neg n10, chk_t hr.1.1.O, hr.2.1, bnd_e]
    refine Wp_m (X8_nd hj hr hl hc) (fun q hq => ⟨(hf1.mono (fun a i q => Or.inl q)).trans hq.1, hq.2⟩)
