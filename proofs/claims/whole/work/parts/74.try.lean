/-! days tried, in x -/
theorem fI_eq {f : Nat → Bool} {n i : Nat} (hi : i < n) (h : ∀ j, j < i → f j = false) (hy : f i = true) : fI f n = i := by
  rcases Nat.lt_trichotomy (fI f n) i with q | q | q
  · have h1 := fI_yes f n (by omega)
    rw [h _ q] at h1
    cases h1
  · exact q
  · rw [fI_no f n i q] at hy
    cases hy
theorem fI_all {f : Nat → Bool} {n : Nat} (h : ∀ j, j < n → f j = false) : fI f n = n := by
  rcases Nat.lt_or_ge (fI f n) n with q | q
  · have h1 := fI_yes f n q
    rw [h _ q] at h1
    cases h1
  · exact Nat.le_antisymm (fI_le f n) q
theorem AgH_hn_ne (C : Cl) {h k : Nat} (e : h ≠ k) : ∀ n, AgH h (hnC C k n) C
  | 0 => AgH.refl h C
  | n + 1 => (AgH_hour_ne (hnC C k n) e).trans (AgH_hn_ne C e n)
theorem ln_qt (C : Cl) (h n : Nat) : lnB (hnC C h n) h (cG (hnC C h n)) = !qtB C h n := by
  unfold qtB
  rw [hnC_G, Bool.not_not]
theorem X0_daysTillSettled {w : Wd} {b : Nat} {D : Cl} (hc : ClS w b) (hx : IsX w b D) (hI : CI D) {h : Nat} (hh : h < 12) : Wp (fX0_daysTillSettled b (nI h) w) (fun q => q.1 = (if qkS D h < 61 then nI (qkS D h) else -1) ∧ Fr (cCl b) w q.2 ∧ ∃ D', IsX q.2 b D' ∧ CI D' ∧ ∀ k, k ≠ h → AgH k D' D) := by
  unfold fX0_daysTillSettled fX0_daysTillSettled_L2
  refine it_w1 (fun i v => Fr (cCl b) w v ∧ IsX v b (hnC D h i) ∧ ∀ j, j < i → qtB D h j = false) 61 (by decide) ⟨Fr.refl w, hx, fun j q => absurd q (Nat.not_lt_zero j)⟩ (fun i v hi hv => ?_) (fun v hv => ?_)
  · obtain ⟨hf, hxv, hq⟩ := hv
    have hcv := hf.cl hc
    have hIv := CI_hnC hI hh i
    obtain ⟨a1, -⟩ := hcv.B
    unfold fX0_daysTillSettled_L2_body
    simp only [ltL60 (show i < 2147483648 by omega), if_neg (show ¬ 60 < i by omega), chk_t a1]
    refine Wp_c (X0_passHour hcv hxv hIv hh) (fun q hq2 => ?_)
    obtain ⟨h1, h2, h3, -⟩ := hq2
    rw [ln_qt] at h1
    rw [h1]
    cases e : qtB D h i with
    | true =>
      simp only [Bool.not_true, if_neg Bool.false_ne_true, if_true]
      refine Wp_wr (Wp_of rfl ⟨?_, hf.trans h2, hourC (hnC D h i) h, h3, CI_hourC hIv hh, fun k hk => AgH_hn_ne D hk (i + 1)⟩)
      have : qkS D h = i := fI_eq hi hq e
      rw [this, if_pos hi]
    | false =>
      simp only [Bool.not_false, if_true, if_neg n10, Wp_l]
      refine ⟨nI_1 i, hf.trans h2, h3, fun j hj => ?_⟩
      by_cases r : j = i
      · rw [r]; exact e
      · exact hq j (by omega)
  · obtain ⟨hf, hxv, hq⟩ := hv
    unfold fX0_daysTillSettled_L2_body
    rw [if_pos (show (60 : Int32) < nI 61 by decide)]
    refine Wp_wr (Wp_of rfl ⟨?_, hf, _, hxv, CI_hnC hI hh 61, fun k hk => AgH_hn_ne D hk 61⟩)
    have : qkS D h = 61 := fI_all hq
    rw [this, if_neg (Nat.lt_irrefl 61)]
theorem AgH.qk {h : Nat} {C D : Cl} (a : AgH h C D) : qkS C h = qkS D h := fI_congr 61 (fun i _ => a.qt i)
theorem X7_settled {w : Wd} {C : Cl} (hs : ShX w) (hx : IsX w 3 C) (hI : CI C) : Wp (fX7_settled 0 w) (fun q => q.1 = smR C ∧ Fr (cCl 43) w q.2) := by
  have hc3 := hs.cl (b := 3) (Or.inl rfl)
  have hc4 := hs.cl (b := 43) (Or.inr (Or.inl rfl))
  obtain ⟨a1, -⟩ := hc4.B
  obtain ⟨t1, t2, t3, t4, t5, t6, t7, t8, t9⟩ := hs.T
  unfold fX7_settled
  simp only [chk_t t1, t5, t4, ob_s, chk_t a1]
  refine Wp_c (X0_take hc4 hc3 hx hI (by omega)) (fun w1 h1 => ?_)
  unfold fX7_settled_L15
  refine it_w2 (fun i x v => (x = nI (smS C i) ∧ smS C i < 61) ∧ Fr (cCl 43) w v ∧ ∃ D, IsX v 43 D ∧ CI D ∧ ∀ k, i ≤ k → AgH k D C) 12 (by decide) ⟨⟨rfl, show 0 < 61 by decide⟩, h1.1, C, h1.2, hI, fun k _ => AgH.refl k C⟩ (fun i x v hi hv => ?_) (fun x v hv => ?_)
  · obtain ⟨⟨rfl, hl⟩, hf, D, hxv, hID, hag⟩ := hv
    have hsv := hf.shx hs
    have hcv := hsv.cl (b := 43) (Or.inr (Or.inl rfl))
    obtain ⟨a1, -⟩ := hcv.B
    obtain ⟨t1, t2, t3, t4, t5, t6, t7, t8, t9⟩ := hsv.T
    unfold fX7_settled_L15_body
    simp only [leL12 (show i < 2147483648 by omega), if_neg (Nat.not_le.mpr hi), chk_t t1, t5, ob_s, chk_t a1]
    refine Wp_c (X0_daysTillSettled hcv hxv hID hi) (fun q hq => ?_)
    obtain ⟨h1, h2, D', h3, h4, h5⟩ := hq
    rw [(hag i (Nat.le_refl i)).qk] at h1
    rw [h1]
    by_cases e : qkS C i < 61
    · simp only [if_pos e, if_neg (nI_m1 (show qkS C i < 2147483648 by omega)), bnd_e, Wp_l, nI_lt_iff (show smS C i < 2147483648 by omega) (show qkS C i < 2147483648 by omega)]
      refine ⟨nI_1 i, ⟨?_, ?_⟩, hf.trans h2, D', h3, h4, fun k hk => (h5 k (by omega)).trans (hag k (by omega))⟩
      · show _ = nI (if smS C i < qkS C i then qkS C i else smS C i)
        by_cases r : smS C i < qkS C i
        · rw [if_pos r, if_pos r]
        · rw [if_neg r, if_neg r]
      · show (if smS C i < qkS C i then qkS C i else smS C i) < 61
        by_cases r : smS C i < qkS C i
        · rw [if_pos r]; exact e
        · rw [if_neg r]; exact hl
    · simp only [if_neg e, if_true]
      refine Wp_wr (Wp_of rfl ⟨?_, hf.trans h2⟩)
      have := sm_ge C 12 i hi
      unfold smR
      rw [if_neg (by omega)]
  · obtain ⟨⟨rfl, hl⟩, hf, -⟩ := hv
    unfold fX7_settled_L15_body
    rw [if_pos (show (12 : Int32) ≤ nI 12 by decide)]
    refine Wp_wr (Wp_of rfl ⟨?_, hf⟩)
    unfold smR
    rw [if_pos hl]
theorem AgH_quiet {C : Cl} {h j : Nat} (e : qtB C h j = true) {m : Nat} (hm : j ≤ m) : AgH h (hnC C h m) (hnC C h j) := by
  have e' : lnB (hnC C h j) h (cG (hnC C h j)) = false := by rw [ln_qt, e]; rfl
  have := AgH_stay e' (m - j)
  rw [hnC_add, show j + (m - j) = m by omega] at this
  exact this
theorem X7_tryDays {w : Wd} {C : Cl} (hs : ShX w) (hx : IsX w 3 C) (hI : CI C) {n h : Nat} (hn : n < 61) (hh : h < 12) : Wp (fX7_tryDays 0 (nI n) (nI h) w) (fun v => Fr (cCl 43) w v ∧ ∃ D, IsX v 43 D ∧ CI D ∧ AgH h D (hnC C h n)) := by
  have hc3 := hs.cl (b := 3) (Or.inl rfl)
  have hc4 := hs.cl (b := 43) (Or.inr (Or.inl rfl))
  obtain ⟨a1, -⟩ := hc4.B
  obtain ⟨t1, t2, t3, t4, t5, t6, t7, t8, t9⟩ := hs.T
  unfold fX7_tryDays
  simp only [chk_t t1, t5, t4, ob_s, chk_t a1]
  refine Wp_c (X0_take hc4 hc3 hx hI (by omega)) (fun w1 h1 => ?_)
  unfold fX7_tryDays_L16
  refine it_w2 (fun i x v => Fr (cCl 43) w v ∧ IsX v 43 (hnC C h i) ∧ (x = 1 ∨ (x = 0 ∧ 0 < i ∧ qtB C h (i - 1) = true))) n (by omega) ⟨h1.1, h1.2, Or.inl rfl⟩ (fun i x v hi hv => ?_) (fun x v hv => ?_)
  · obtain ⟨hf, hxv, hfl⟩ := hv
    have hsv := hf.shx hs
    have hcv := hsv.cl (b := 43) (Or.inr (Or.inl rfl))
    have hIv := CI_hnC hI hh i
    obtain ⟨a1, -⟩ := hcv.B
    obtain ⟨t1, t2, t3, t4, t5, t6, t7, t8, t9⟩ := hsv.T
    unfold fX7_tryDays_L16_body
    simp only [nI_le_iff (show n < 2147483648 by omega) (show i < 2147483648 by omega), if_neg (Nat.not_le.mpr hi)]
    rcases hfl with e | ⟨e, e1, e2⟩
    · subst e
      simp only [if_neg n10, chk_t t1, t5, ob_s, chk_t a1]
      refine Wp_c (X0_passHour hcv hxv hIv hh) (fun q hq => ?_)
      obtain ⟨h1, h2, h3, -⟩ := hq
      rw [ln_qt] at h1
      rw [Wp_l, h1]
      refine ⟨nI_1 i, hf.trans h2, h3, ?_⟩
      cases e : qtB C h i with
      | true => exact Or.inr ⟨rfl, Nat.succ_pos i, e⟩
      | false => exact Or.inl rfl
    · subst e
      simp only [if_true, fX7_tryDays_b41]
      exact Wp_wr (Wp_of rfl ⟨hf, _, hxv, hIv, (AgH_quiet e2 (by omega)).trans (AgH_quiet e2 (by omega)).symm⟩)
  · obtain ⟨hf, hxv, -⟩ := hv
    unfold fX7_tryDays_L16_body
    simp only [Int32.le_refl, if_true, fX7_tryDays_b41]
    exact Wp_wr (Wp_of rfl ⟨hf, _, hxv, CI_hnC hI hh n, AgH.refl h _⟩)
