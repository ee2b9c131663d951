/-! the image; the trace -/
theorem C_image {C : Cl} {x m : Wd} (h : RelC C x m) : E2 (fX7_image 0  x) (fX8_image 0  m) := by
  obtain ⟨⟨hs, hm, hI, hx, hxm⟩, -⟩ := id h
  have hP : cP C ≤ 6 := hI.1.1
  have hG : cG C ≤ 8 := hI.1.2
  have hc := hs.cl (b := 3) (Or.inl rfl)
  obtain ⟨a1, a2, a3, a4, a5, a6, a7, a8, a9, a10⟩ := hc.B
  obtain ⟨t1, t2, t3, t4, t5, t6, t7, t8, t9⟩ := hs.T
  have a0 := hm.O
  have gG := X0_hasGarment hc (n := cG C) hx.1.2.1 (by omega)
  have gP := X0_hasPerson hc (n := cP C) hx.1.1 (by omega)
  have mG := X8_isGarment hm (n := cG C) hxm.1.2.1 (by omega)
  have mP := X8_isOne hm (n := cP C) hxm.1.1 (by omega)
  have c83 := hs.cl (b := 83) (Or.inr (Or.inr rfl))
  have t10 : wR x 0 4 = some 83 := hs.R (by decide) (by decide) (fun q => by omega) (by decide +kernel)
  obtain ⟨a83, -⟩ := c83.B
  obtain ⟨k1, k2, k3⟩ := hm.a13
  have k2' : isA (sI m 0 18 1) 13 0 := k2
  unfold fX7_image fX8_image
  simp only [chk_t t1, t10, t4, ob_s, chk_t a83, chk_t a0, bnd_e, cO_s, wR_sI, k1]
  refine E2_of (r := nI (cG C)) (X := fun u => ∃ w, (Fr (cCl 83) x w ∧ IsX w 83 C) ∧ u = sI w 0 9 1) (M := fun u => Fr (fun a i => a = 13 ∨ (a = 0 ∧ i = 18)) m u ∧ wI u 0 18 = 1 ∧ Kp (wI u 13) m) (Wp_c (X0_take c83 hc hx hI (by omega)) (fun w hw => ?_)) (Wp_c (X8_keep (show ShM (sI m 0 18 1) from hm) (by decide) k2' k3) (fun w hw => ?_)) (fun u v hu hv => ?_)
  · have hsw := hw.1.shx hs
    have hcw := hsw.cl (b := 3) (Or.inl rfl)
    obtain ⟨a1, -⟩ := hcw.B
    obtain ⟨t1, t2, t3, t4, t5, t6, t7, t8, t9⟩ := hsw.T
    have e4 : wI (sI w 0 9 1) 3 4 = nI (cG C) := by rw [wI_n (by omega), hw.1.at (by unfold cCl; omega)]; exact hx.1.2.1
    simp only [chk_t t1, bnd_e, cO_s, wR_sI, t4, ob_s, chk_t a1, e4]
    exact Wp_of rfl ⟨rfl, w, hw, rfl⟩
  · have hsw := hw.1.shm (show ShM (sI m 0 18 1) from hm)
    have e6 : wI w 0 6 = nI (cG C) := by rw [hw.1.at (by omega), wI_n (by omega)]; exact hxm.1.2.1
    simp only [chk_t hsw.O, e6]
    refine Wp_of rfl ⟨rfl, (Fr_sI (S := fun a i => a = 13 ∨ (a = 0 ∧ i = 18)) _ (Or.inr ⟨rfl, rfl⟩)).trans (hw.1.mono (fun a i q => Or.inl q)), ?_, ?_⟩
    · show wI w 0 18 = 1
      rw [hw.1.at (by omega), wI_e]
    · obtain ⟨k1, k2, k3, k4, k5, k6, k7, k8⟩ := hw.2
      have e : ∀ a i, ¬ (a = 0 ∧ i = 18) → wI (sI m 0 18 1) a i = wI m a i := fun a i q => wI_n q
      refine ⟨fun i hi => ?_, fun i hi => ?_, fun i hi => ?_, fun i hi => ?_, ?_, ?_, ?_, ?_⟩
      · have := k1 i hi
        rw [e 6 i (by omega), e 7 i (by omega), e 8 i (by omega)] at this
        exact this
      · have := k2 i hi
        rw [e 9 i (by omega), e 10 i (by omega)] at this
        exact this
      · have := k3 i hi
        rw [e 5 i (by omega)] at this
        exact this
      · have := k4 i hi
        rw [e 4 i (by omega)] at this
        exact this
      · rw [e 0 3 (by omega)] at k5
        exact k5
      · rw [e 0 6 (by omega)] at k6
        exact k6
      · rw [e 0 12 (by omega)] at k7
        exact k7
      · rw [e 0 13 (by omega)] at k8
        exact k8
  · obtain ⟨w, ⟨w1, w2⟩, rfl⟩ := hu
    obtain ⟨v1, v2, v3⟩ := hv
    obtain ⟨⟨r1, r2, r3, r4, r5⟩, r6, r7, r8, r9, r10⟩ := h
    have fx : Fr (fun a i => cCl 83 a i ∨ (a = 0 ∧ i = 9)) x (sI w 0 9 1) := (w1.mono (fun a i q => Or.inl q)).sI _ (Or.inr ⟨rfl, rfl⟩)
    refine ⟨C, ⟨fx.shx r1, v1.shm r2, r3, r4.fr r3 fx (fun a i q => by unfold cCl at q; omega), r5.fr v1 (fun a i q => by omega)⟩, Or.inr ⟨⟨wI_e _ _ _ _, v2⟩, C, m, r3, w2.fr r3 (Fr_sI (S := fun a i => a = 0 ∧ i = 9) _ ⟨rfl, rfl⟩) (fun a i q => by omega), v3, r5⟩, fun s h8 => ?_, fun i h1 h2 => ?_, ?_, ?_⟩
    · unfold ShE
      rw [fx.at (by unfold cCl; omega), fx.at (by unfold cCl; omega), v1.at (by omega), v1.at (by omega), fx.L, v1.L]
      exact r7 s h8
    · rw [fx.at (by unfold cCl; omega), v1.at (by omega)]
      exact r8 i h1 h2
    · rw [fx.at (by unfold cCl; omega), v1.at (by omega)]
      exact r9
    · obtain ⟨t, t1, t2, t3, t4⟩ := r10
      refine ⟨t, t1, ?_, ?_, fun i h1 h2 => ?_⟩
      · rw [fx.at (by unfold cCl; omega)]; exact t2
      · rw [v1.at (by omega)]; exact t3
      · rw [fx.at (by unfold cCl; omega), v1.at (by omega)]; exact t4 i h1 h2
theorem C_trace {C : Cl} {x m : Wd} (h : RelC C x m) (i : Int32) : E2 (fX7_trace 0 i x) (fX8_trace 0 i m) := by
  obtain ⟨⟨hs, hm, hI, hx, hxm⟩, -⟩ := id h
  have hP : cP C ≤ 6 := hI.1.1
  have hG : cG C ≤ 8 := hI.1.2
  have hc := hs.cl (b := 3) (Or.inl rfl)
  obtain ⟨a1, a2, a3, a4, a5, a6, a7, a8, a9, a10⟩ := hc.B
  obtain ⟨t1, t2, t3, t4, t5, t6, t7, t8, t9⟩ := hs.T
  have a0 := hm.O
  have gG := X0_hasGarment hc (n := cG C) hx.1.2.1 (by omega)
  have gP := X0_hasPerson hc (n := cP C) hx.1.1 (by omega)
  have mG := X8_isGarment hm (n := cG C) hxm.1.2.1 (by omega)
  have mP := X8_isOne hm (n := cP C) hxm.1.1 (by omega)
  obtain ⟨-, -, -, -, -, t, q1, q2, q3, q4⟩ := id h
  obtain ⟨k1, k2, k3⟩ := hm.a12
  have tm : wR x 0 8 = some 133 ∧ isO x 133 3 := ⟨hs.R (by decide) (by decide) (fun q => by omega) (by decide +kernel), by rw [hs.1]; decide, (hs.K (n := 0) (by decide) (by decide +kernel)).1⟩
  have tb : wR x 133 1 = some 134 ∧ isA x 134 0 ∧ wn x 134 = 20 := ⟨hs.R (by decide) (by decide) (fun q => by omega) (by decide +kernel), ⟨by rw [hs.1]; decide, (hs.K (n := 20) (by decide) (by decide +kernel)).1⟩, (hs.K (k := 0) (by decide) (by decide +kernel)).2⟩
  unfold fX7_trace fX8_trace fX3_bodyAt fX3_bodyAt_b27 fX3_bodyAt_b28 fX8_trace_b27 fX8_trace_b28
  simp only [chk_t t1, tm.1, ob_s, chk_t tm.2, q2, q3, chk_t a0, ob_eta]
  by_cases i0 : i < 0
  · simp only [if_pos i0]
    exact E2_eq ⟨C, h⟩
  · obtain ⟨j, hj, rfl⟩ := isN_ex (n := 2147483647 + 1) ⟨i0, by have := Int32.toNatClampNeg_lt i; omega⟩
    simp only [if_neg i0, nI_le_iff (show t < 2147483648 by omega) (show j < 2147483648 by omega), leL20 (show j < 2147483648 by omega)]
    by_cases e1 : t ≤ j
    · simp only [if_pos e1]
      exact E2_eq ⟨C, h⟩
    · simp only [if_neg e1]
      by_cases e2 : 20 ≤ j
      · simp only [if_pos e2]
        exact E2_eq ⟨C, h⟩
      · have b1 : inb (nI j) 20 := inb_nI (by omega) (by decide)
        simp only [if_neg e2, tb.1, k1, ob_s, chk_t tb.2.1, chk_t k2, tb.2.2, k3, chk_t b1, nI_clamp (show j < 2 ^ 31 by omega), q4 j (by omega) (by omega)]
        exact E2_eq ⟨C, h⟩
/-! back to the image -/
def nhS (D : Cl) (c : Int32) : Int32 := if 0 ≤ c ∧ c < 100 ∧ ¬ c < nI (cG D) then -1 else c
theorem X7_restoreL {x0 x : Wd} {C D : Cl} {m : Wd} (h : RelC C x0 m) (hs : ShX x) (hx : IsX x 3 D) (hI : CI D) (he : ∀ s, s < 8 → wI x (135 + 2 * s) 2 = wI m 1 s) : Wp (fX7_restore_L27 0 (0, x)) (fun q => q.1 = nI (cG D) ∧ Fr (fun a i => 135 ≤ a ∧ (i = 1 ∨ i = 2)) x q.2 ∧ ∀ s, s < 8 → wI q.2 (135 + 2 * s) 2 = nhS D (wI m 1 s) ∧ (100 ≤ wI m 1 s → wI q.2 (135 + 2 * s) 1 = wI x (135 + 2 * s) 1)) := by
  have hG : cG D ≤ 8 := hI.1.2
  have hGC : cG C ≤ 8 := h.1.2.2.1.1.2
  unfold fX7_restore_L27
  refine it_w1 (fun i v => Fr (fun a i => 135 ≤ a ∧ (i = 1 ∨ i = 2)) x v ∧ ∀ s, s < 8 → wI v (135 + 2 * s) 2 = (if s < i then nhS D (wI m 1 s) else wI m 1 s) ∧ (100 ≤ wI m 1 s → wI v (135 + 2 * s) 1 = wI x (135 + 2 * s) 1)) 8 (by decide) ⟨Fr.refl x, fun s h8 => ⟨(he s h8).trans (if_neg (Nat.not_lt_zero s)).symm, fun _ => rfl⟩⟩ (fun i v hi hv => ?_) (fun v hv => ?_)
  · obtain ⟨hf, hv⟩ := hv
    have hsv := hf.shx hs
    have hcv := hsv.cl (b := 3) (Or.inl rfl)
    have hxv := hx.fr hI hf (fun a i q => by omega)
    obtain ⟨a1, -⟩ := hcv.B
    obtain ⟨t1, t2, t3, t4, t5, t6, t7, t8, t9⟩ := hsv.T
    obtain ⟨s1, s2, s3, s4, s5⟩ := hsv.S hi
    obtain ⟨b1, b2⟩ := inb8 hi
    have e0 : wI v (135 + 2 * i) 2 = wI m 1 i := by rw [(hv i hi).1, if_neg (Nat.lt_irrefl i)]
    have stay : nhS D (wI m 1 i) = wI m 1 i → ∀ s, s < 8 → wI v (135 + 2 * s) 2 = (if s < i + 1 then nhS D (wI m 1 s) else wI m 1 s) ∧ (100 ≤ wI m 1 s → wI v (135 + 2 * s) 1 = wI x (135 + 2 * s) 1) := by
      intro hst s h8
      refine ⟨?_, (hv s h8).2⟩
      by_cases e : s = i
      · subst e
        rw [if_pos (Nat.lt_succ_self s), hst, e0]
      · rw [(hv s h8).1]
        by_cases r : s < i
        · rw [if_pos r, if_pos (by omega)]
        · rw [if_neg r, if_neg (by omega)]
    unfold fX7_restore_L27_body
    simp only [leL8 (show i < 2147483648 by omega), if_neg (Nat.not_le.mpr hi), chk_t t1, t2, ob_s, chk_t t6, t7, chk_t b1, b2, s1, chk_t s2, X6_holdsG s2 _ e0, t4, chk_t a1, e0, X0_hasGarment hcv (n := cG D) hxv.1.2.1 (by omega), fX7_restore_b73]
    rcases h.sh hi with ⟨q1, q2⟩ | ⟨g, q0, q1, q2⟩ | ⟨k, l, hr⟩
    · have hh : ¬ (¬ wI m 1 i = -1 ∧ ¬ 100 ≤ wI m 1 i) := fun q => q.1 q1
      simp only [bI_f hh, if_true, Wp_l]
      refine ⟨nI_1 i, hf, stay ?_⟩
      unfold nhS
      rw [q1, if_neg (fun q => absurd q.1 (by decide))]
    · have hh : ¬ wI m 1 i = -1 ∧ ¬ 100 ≤ wI m 1 i := by rw [q1]; exact ⟨nI_m1 (by omega), nle100 (by omega)⟩
      have h0 : (0 : Int32) ≤ wI m 1 i := by rw [q1]; exact nneg g (by omega)
      have h1 : wI m 1 i < 100 := by rw [q1]; exact lt100 (by omega)
      have hl : (wI m 1 i < nI (cG D)) = (g < cG D) := by rw [q1]; exact nI_lt_iff (by omega) (by omega)
      simp only [bI_t hh, if_neg n10]
      by_cases e : g < cG D
      · have hN : isN (wI m 1 i) (cG D) := by rw [q1]; exact isN_nI e (by omega)
        simp only [bI_t hN, if_neg n10, Wp_l]
        refine ⟨nI_1 i, hf, stay ?_⟩
        unfold nhS
        rw [if_neg (fun q => q.2.2 (hl.mpr e))]
      · have hN : ¬ isN (wI m 1 i) (cG D) := by
          rw [q1]
          intro q
          have := q.2
          rw [nI_clamp (by omega)] at this
          exact e this
        unfold fX6_holdNothing
        simp only [bI_f hN, if_true, chk_t s2, bnd_e, cO_s, ob_s, Wp_l]
        refine ⟨nI_1 i, (hf.sI _ ⟨by omega, Or.inr rfl⟩).sI _ ⟨by omega, Or.inl rfl⟩, fun s h8 => ?_⟩
        by_cases r : s = i
        · subst r
          rw [wI_n (by omega), wI_e, if_pos (Nat.lt_succ_self s)]
          refine ⟨?_, fun q => absurd q hh.2⟩
          unfold nhS
          rw [if_pos ⟨h0, h1, fun q => e (hl.mp q)⟩]
        · rw [wI_n (by omega), wI_n (by omega), wI_n (by omega), wI_n (by omega)]
          refine ⟨?_, (hv s h8).2⟩
          rw [(hv s h8).1]
          by_cases r2 : s < i
          · rw [if_pos r2, if_pos (by omega)]
          · rw [if_neg r2, if_neg (by omega)]
    · obtain ⟨⟨k4, l1⟩, r1, r2, r3, r4, r5⟩ := id hr
      have hh : ¬ (¬ wI m 1 i = -1 ∧ ¬ 100 ≤ wI m 1 i) := fun q => q.2 (by rw [r1]; exact le100 k k4)
      simp only [bI_f hh, if_true, Wp_l]
      refine ⟨nI_1 i, hf, stay ?_⟩
      unfold nhS
      rw [if_neg (fun q => absurd q.2.1 (by rw [r1]; exact nlt100 k k4))]
  · obtain ⟨hf, hv⟩ := hv
    have hsv := hf.shx hs
    have hcv := hsv.cl (b := 3) (Or.inl rfl)
    have hxv := hx.fr hI hf (fun a i q => by omega)
    obtain ⟨a1, -⟩ := hcv.B
    obtain ⟨t1, t2, t3, t4, t5, t6, t7, t8, t9⟩ := hsv.T
    unfold fX7_restore_L27_body
    simp only [if_pos (show (8 : Int32) ≤ nI 8 by decide), chk_t t1, t4, ob_s, chk_t a1, hxv.1.2.1]
    refine Wp_wr (Wp_of rfl ⟨rfl, hf, fun s h8 => ⟨?_, (hv s h8).2⟩⟩)
    show wI v (135 + 2 * s) 2 = _
    rw [(hv s h8).1, if_pos h8]
theorem X8_restoreL {m0 m : Wd} {C D : Cl} {x : Wd} (h : RelC C x m0) (hs : ShM m) (hx : IsM m D) (hI : CI D) (he : ∀ s, s < 8 → wI m 1 s = wI m0 1 s) : Wp (fX8_restore_L24 0 (0, m)) (fun q => q.1 = nI (cG D) ∧ Fr (fun a _ => a = 1) m q.2 ∧ ∀ s, s < 8 → wI q.2 1 s = nhS D (wI m0 1 s)) := by
  have hG : cG D ≤ 8 := hI.1.2
  have hGC : cG C ≤ 8 := h.1.2.2.1.1.2
  unfold fX8_restore_L24
  refine it_w1 (fun i v => Fr (fun a _ => a = 1) m v ∧ ∀ s, s < 8 → wI v 1 s = (if s < i then nhS D (wI m0 1 s) else wI m0 1 s)) 8 (by decide) ⟨Fr.refl m, fun s h8 => (he s h8).trans (if_neg (Nat.not_lt_zero s)).symm⟩ (fun i v hi hv => ?_) (fun v hv => ?_)
  · obtain ⟨hf, hv⟩ := hv
    have hsv := hf.shm hs
    have hxv := hx.fr hf (fun a i q => by omega)
    obtain ⟨e1, e2, e3⟩ := hsv.a1
    obtain ⟨b1, b2⟩ := inb8 hi
    have e0 : wI v 1 i = wI m0 1 i := by rw [hv i hi, if_neg (Nat.lt_irrefl i)]
    have stay : nhS D (wI m0 1 i) = wI m0 1 i → ∀ s, s < 8 → wI v 1 s = (if s < i + 1 then nhS D (wI m0 1 s) else wI m0 1 s) := by
      intro hst s h8
      by_cases e : s = i
      · subst e
        rw [if_pos (Nat.lt_succ_self s), hst, e0]
      · rw [hv s h8]
        by_cases r : s < i
        · rw [if_pos r, if_pos (by omega)]
        · rw [if_neg r, if_neg (by omega)]
    unfold fX8_restore_L24_body
    simp only [leL8 (show i < 2147483648 by omega), if_neg (Nat.not_le.mpr hi), chk_t hsv.O, X8_isRow hsv hi _ e0, ob_s, e1, chk_t e2, e3, chk_t b1, b2, e0, hxv.1.2.1, bnd_e, fX8_restore_b58]
    rcases h.sh hi with ⟨q1, q2⟩ | ⟨g, q0, q1, q2⟩ | ⟨k, l, hr⟩
    · have hh : ¬ ¬ wI m0 1 i < 100 := by rw [q1]; decide
      have hl : wI m0 1 i < nI (cG D) := by
        rw [q1]
        exact Int32.lt_of_lt_of_le (show (-1 : Int32) < 0 by decide) (nneg _ (by omega))
      simp only [bI_f hh, if_true, if_pos hl, Wp_l]
      refine ⟨nI_1 i, hf, stay ?_⟩
      unfold nhS
      rw [q1, if_neg (fun q => absurd q.1 (by decide))]
    · have hh : ¬ ¬ wI m0 1 i < 100 := not_not_intro (by rw [q1]; exact lt100 (by omega))
      have h0 : (0 : Int32) ≤ wI m0 1 i := by rw [q1]; exact nneg g (by omega)
      have hl : (wI m0 1 i < nI (cG D)) = (g < cG D) := by rw [q1]; exact nI_lt_iff (by omega) (by omega)
      simp only [bI_f hh, if_true, hl]
      by_cases e : g < cG D
      · simp only [if_pos e, Wp_l]
        refine ⟨nI_1 i, hf, stay ?_⟩
        unfold nhS
        rw [if_neg (fun q => q.2.2 (hl.mpr e))]
      · simp only [if_neg e, Wp_l]
        refine ⟨nI_1 i, hf.sI _ rfl, fun s h8 => ?_⟩
        by_cases r : s = i
        · subst r
          rw [wI_e, if_pos (Nat.lt_succ_self s)]
          unfold nhS
          rw [if_pos ⟨h0, Decidable.not_not.mp hh, fun q => e (hl.mp q)⟩]
        · rw [wI_n (by omega), hv s h8]
          by_cases r2 : s < i
          · rw [if_pos r2, if_pos (by omega)]
          · rw [if_neg r2, if_neg (by omega)]
    · obtain ⟨⟨k4, l1⟩, r1, r2, r3, r4, r5⟩ := id hr
      have hh : ¬ wI m0 1 i < 100 := by rw [r1]; exact nlt100 k k4
      simp only [bI_t hh, if_neg n10, Wp_l]
      refine ⟨nI_1 i, hf, stay ?_⟩
      unfold nhS
      rw [if_neg (fun q => hh q.2.1)]
  · obtain ⟨hf, hv⟩ := hv
    have hsv := hf.shm hs
    have hxv := hx.fr hf (fun a i q => by omega)
    unfold fX8_restore_L24_body
    simp only [if_pos (show (8 : Int32) ≤ nI 8 by decide), chk_t hsv.O, hxv.1.2.1]
    refine Wp_wr (Wp_of rfl ⟨rfl, hf, fun s h8 => ?_⟩)
    show wI v 1 s = _
    rw [hv s h8, if_pos h8]
theorem C_restore {C : Cl} {x m : Wd} (h : RelC C x m) : E2 (fX7_restore 0  x) (fX8_restore 0  m) := by
  obtain ⟨⟨hs, hm, hI, hx, hxm⟩, -⟩ := id h
  have hP : cP C ≤ 6 := hI.1.1
  have hG : cG C ≤ 8 := hI.1.2
  have hc := hs.cl (b := 3) (Or.inl rfl)
  obtain ⟨a1, a2, a3, a4, a5, a6, a7, a8, a9, a10⟩ := hc.B
  obtain ⟨t1, t2, t3, t4, t5, t6, t7, t8, t9⟩ := hs.T
  have a0 := hm.O
  have gG := X0_hasGarment hc (n := cG C) hx.1.2.1 (by omega)
  have gP := X0_hasPerson hc (n := cP C) hx.1.1 (by omega)
  have mG := X8_isGarment hm (n := cG C) hxm.1.2.1 (by omega)
  have mP := X8_isOne hm (n := cP C) hxm.1.1 (by omega)
  have c83 := hs.cl (b := 83) (Or.inr (Or.inr rfl))
  have t10 : wR x 0 4 = some 83 := hs.R (by decide) (by decide) (fun q => by omega) (by decide +kernel)
  obtain ⟨k1, k2, k3⟩ := hm.a13
  obtain ⟨-, r6, r7, r8, r9, r10⟩ := id h
  unfold fX7_restore fX8_restore
  rcases r6 with ⟨i1, i2⟩ | ⟨⟨i1, i2⟩, D, v, q1, q2, q3, q4⟩
  · simp only [chk_t t1, t2, t3, t4, t5, ob_s, chk_t a1, chk_t a0, gG, gP, mG, mP, ob_eta, i1, i2, if_true]
    exact h.r6
  · simp only [chk_t t1, t2, t3, t4, t5, ob_s, chk_t a1, chk_t a0, gG, gP, mG, mP, ob_eta, i1, i2, if_neg n10, t10, k1]
    refine E2_of (r := nI (cG D)) (X := fun u => ∃ w, (Fr (cCl 3) x w ∧ IsX w 3 D) ∧ Fr (fun a i => 135 ≤ a ∧ (i = 1 ∨ i = 2)) w u ∧ ∀ s, s < 8 → wI u (135 + 2 * s) 2 = nhS D (wI m 1 s) ∧ (100 ≤ wI m 1 s → wI u (135 + 2 * s) 1 = wI w (135 + 2 * s) 1)) (M := fun u => ∃ w, (Fr cM m w ∧ IsM w D) ∧ Fr (fun a _ => a = 1) w u ∧ ∀ s, s < 8 → wI u 1 s = nhS D (wI m 1 s)) (Wp_c (X0_take hc c83 q2 q1 (by omega)) (fun w hw => ?_)) (Wp_c (X8_again hm (by decide) k2 k3) (fun w hw => ?_)) (fun u v' hu hv => ?_)
    · refine Wp_m (X7_restoreL h (hw.1.shx hs) hw.2 q1 (fun s h8 => ?_)) (fun q hq => ⟨hq.1, w, hw, hq.2⟩)
      rw [hw.1.at (by unfold cCl; omega)]
      exact (r7 s h8).1
    · have hD : IsM w D := q3.isM hw.2 q1 q4
      refine Wp_m (X8_restoreL h (hw.1.shm hm) hD q1 (fun s h8 => ?_)) (fun q hq => ⟨hq.1, w, ⟨hw.1, hD⟩, hq.2⟩)
      rw [hw.1.at (by unfold cM; omega)]
    · obtain ⟨w, ⟨w1, w2⟩, w3, w4⟩ := hu
      obtain ⟨z, ⟨z1, z2⟩, z3, z4⟩ := hv
      have fx : Fr (fun a i => cCl 3 a i ∨ (135 ≤ a ∧ (i = 1 ∨ i = 2))) x u := (w1.mono (fun a i q => Or.inl q)).trans (w3.mono (fun a i q => Or.inr q))
      have fm : Fr (fun a i => cM a i ∨ a = 1) m v' := (z1.mono (fun a i q => Or.inl q)).trans (z3.mono (fun a i q => Or.inr q))
      refine ⟨D, ⟨fx.shx hs, fm.shm hm, q1, w2.fr q1 w3 (fun a i q => by omega), z2.fr z3 (fun a i q => by omega)⟩, Or.inr ⟨⟨?_, ?_⟩, D, v, q1, q2.fr q1 fx (fun a i q => by unfold cCl at q; omega), ?_, q4⟩, fun s h8 => ?_, fun i h1 h2 => ?_, ?_, ?_⟩
      · rw [fx.at (by unfold cCl; omega)]; exact i1
      · rw [fm.at (by unfold cM; omega)]; exact i2
      · have e : wI v' 13 = wI m 13 := funext fun i => fm.at (by unfold cM; omega)
        rw [e]
        exact q3
      · refine ⟨(w4 s h8).1.trans (z4 s h8).symm, ?_⟩
        rw [z4 s h8]
        rcases h.sh h8 with ⟨p1, p2⟩ | ⟨g, p0, p1, p2⟩ | ⟨k, l, hr⟩
        · left
          unfold nhS
          rw [p1, if_neg (fun q => absurd q.1 (by decide))]
        · unfold nhS
          by_cases e : 0 ≤ wI m 1 s ∧ wI m 1 s < 100 ∧ ¬ wI m 1 s < nI (cG D)
          · rw [if_pos e]
            exact Or.inl rfl
          · rw [if_neg e]
            have : g < cG D := by
              rw [p1] at e
              have hG : cG D ≤ 8 := q1.1.2
              have hl := nI_lt_iff (a := g) (b := cG D) (by omega) (by omega)
              rw [hl] at e
              exact Decidable.not_not.mp (fun q => e ⟨nneg g (by omega), lt100 (by omega), q⟩)
            exact Or.inr (Or.inl ⟨g, this, p1⟩)
        · obtain ⟨⟨k4, l1⟩, r1, r2, r3, r4, r5⟩ := id hr
          have e : nhS D (wI m 1 s) = wI m 1 s := by
            unfold nhS
            rw [if_neg (fun q => absurd q.2.1 (by rw [r1]; exact nlt100 k k4))]
          rw [e]
          refine Or.inr (Or.inr ⟨k, l, k4, l1, r1, ?_, ?_, fun i hi => ?_⟩)
          · rw [(w4 s h8).2 (by rw [r1]; exact le100 k k4), w1.at (by unfold cCl; omega)]
            exact r3
          · rw [fm.at (by unfold cM; omega)]
            exact r4
          · rw [fx.L, fm.L]
            exact r5 i hi
      · rw [fx.at (by unfold cCl; omega), fm.at (by unfold cM; omega)]
        exact r8 i h1 h2
      · rw [fx.at (by unfold cCl; omega), fm.at (by unfold cM; omega)]
        exact r9
      · obtain ⟨t, t1, t2, t3, t4⟩ := r10
        refine ⟨t, t1, ?_, ?_, fun i h1 h2 => ?_⟩
        · rw [fx.at (by unfold cCl; omega)]; exact t2
        · rw [fm.at (by unfold cM; omega)]; exact t3
        · rw [fx.at (by unfold cCl; omega), fm.at (by unfold cM; omega)]; exact t4 i h1 h2
