/-! the root of x -/
theorem ShX.T {w : Wd} (h : ShX w) : isO w 0 7 ∧ wR w 0 0 = some 1 ∧ wR w 0 1 = some 2 ∧ wR w 0 2 = some 3 ∧ wR w 0 3 = some 43 ∧ isA w 1 4 ∧ wn w 1 = 8 ∧ isA w 2 0 ∧ wn w 2 = 8 := by
  have l : (0 : Nat) < 151 := by decide
  exact ⟨⟨by rw [h.1]; decide, (h.K (n := 0) (by decide) (by decide +kernel)).1⟩, h.R (by decide) (by decide) (fun q => by omega) (by decide +kernel), h.R (by decide) (by decide) (fun q => by omega) (by decide +kernel), h.R (by decide) (by decide) (fun q => by omega) (by decide +kernel), h.R (by decide) (by decide) (fun q => by omega) (by decide +kernel), ⟨by rw [h.1]; decide, (h.K (n := 8) (by decide) (by decide +kernel)).1⟩, (h.K (k := 4) (by decide) (by decide +kernel)).2, ⟨by rw [h.1]; decide, (h.K (n := 8) (by decide) (by decide +kernel)).1⟩, (h.K (k := 0) (by decide) (by decide +kernel)).2⟩
/-! the watch of a day -/
def wtS (C : Cl) : Nat → Nat × Int32
  | 0 => (0, 0)
  | n + 1 => if (wtS C n).2 < unS C n then (n, unS C n) else wtS C n
theorem wtS_s (C : Cl) (n : Nat) : wtS C (n + 1) = if (wtS C n).2 < unS C n then (n, unS C n) else wtS C n := rfl
theorem X7_watchL {w : Wd} {C : Cl} (hs : ShX w) (hx : IsX w 3 C) (hI : CI C) : fX7_watch_L23 0 (0, 0, 0, w) = some (nI (wtS C 12).1, w) := by
  have hc := hs.cl (Or.inl rfl)
  obtain ⟨a1, -⟩ := hc.B
  obtain ⟨t1, t2, t3, t4, t5, t6, t7, t8, t9⟩ := hs.T
  unfold fX7_watch_L23
  refine it_for (fun i => (nI (wtS C i).1, (wtS C i).2, nI i, w)) 12 (by decide) (fun i hi => ?_) ?_
  · unfold fX7_watch_L23_body
    simp only [leL12 (show i < 2147483648 by omega), if_neg (Nat.not_le.mpr hi), chk_t t1, t4, ob_s, chk_t a1, X0_unlikeDeeds hc hx hI hi, fX7_watch_b50, nI_1, wtS_s]
    by_cases e : (wtS C i).2 < unS C i
    · rw [if_neg (Int32.not_le.mpr e), if_pos e]
    · rw [if_pos (Int32.not_lt.mp e), if_neg e]
  · rfl
theorem X8_watchI {w : Wd} {C : Cl} (hc : ShM w) (hx : IsM w C) (hI : CI C) {h : Nat} (hh : h < 12) (a c : Int32) : fX8_watch_L32 0 a c (nI h) (0, 0, w) = some (Sum.inl (if c < unS C h then (nI h, unS C h, nI (h + 1), w) else (a, c, nI (h + 1), w))) := by
  have hP : cP C ≤ 6 := hI.1.1
  have a0 := hc.O
  unfold fX8_watch_L32
  refine it_for (fun i => (nI (dmS C h i), nI i, w)) (cP C) (by omega) (fun i hi => ?_) ?_
  · have hd := does_le hI hi hh
    have hm := dmS_lt hI hh i (by omega)
    unfold fX8_watch_L32_body
    simp only [chk_t a0, hx.1.1, nI_le_iff (show cP C < 2147483648 by omega) (show i < 2147483648 by omega), if_neg (Nat.not_le.mpr hi), X8_doesNow hc hx hI hi hh, ob_s, bnd_e, or_10 _ (show doesS C i h < 10 by omega) _ hm, nI_1]
    rfl
  · unfold fX8_watch_L32_body
    simp only [chk_t a0, hx.1.1, if_pos (Int32.le_refl _), J6_bc, ob_s, fX8_watch_b84, nI_1]
    change wr (if c < unS C h then _ else _) = _
    by_cases e : c < unS C h
    · rw [if_pos e, if_pos e, wr_s]
      rfl
    · rw [if_neg e, if_neg e, wr_s]
theorem X8_watchL {w : Wd} {C : Cl} (hc : ShM w) (hx : IsM w C) (hI : CI C) : fX8_watch_L20 0 (0, 0, 0, w) = some (nI (wtS C 12).1, w) := by
  unfold fX8_watch_L20
  refine it_for (fun i => (nI (wtS C i).1, (wtS C i).2, nI i, w)) 12 (by decide) (fun i hi => ?_) ?_
  · unfold fX8_watch_L20_body
    simp only [leL12 (show i < 2147483648 by omega), if_neg (Nat.not_le.mpr hi), X8_watchI hc hx hI hi, wtS_s]
    by_cases e : (wtS C i).2 < unS C i
    · rw [if_pos e, if_pos e]
    · rw [if_neg e, if_neg e]
  · rfl
/-! who goes alone -/
def alS (C : Cl) (h : Nat) : Nat := bN (fun g => gnS C g h) (cG C)
theorem X7_aloneL {w : Wd} {C : Cl} (hs : ShX w) (hx : IsX w 3 C) (hI : CI C) {h : Nat} (hh : h < 12) : fX7_alone_L18 0 (nI h) (0, 0, w) = some (nI (alS C h), w) := by
  have hG : cG C ≤ 8 := hI.1.2
  have hc := hs.cl (Or.inl rfl)
  obtain ⟨a1, -⟩ := hc.B
  obtain ⟨t1, t2, t3, t4, t5, t6, t7, t8, t9⟩ := hs.T
  unfold fX7_alone_L18
  refine it_for (fun i => (nI (bN (fun g => gnS C g h) i), nI i, w)) (cG C) (by omega) (fun i hi => ?_) ?_
  · have h256 := bN_256 (fun g => gnS C g h) (show i ≤ 8 by omega)
    unfold fX7_alone_L18_body
    simp only [chk_t t1, t4, ob_s, chk_t a1, hx.1.2.1, nI_le_iff (show cG C < 2147483648 by omega) (show i < 2147483648 by omega), if_neg (Nat.not_le.mpr hi), X0_isGoing hc hx hI hi hh, or_bit i (by omega) _ h256, bnd_e, fX7_alone_b47, nI_1, bN_s]
    cases gnS C i h <;> rfl
  · unfold fX7_alone_L18_body
    simp only [chk_t t1, t4, ob_s, chk_t a1, hx.1.2.1, if_pos (Int32.le_refl _), wr_s]
    rfl
theorem X8_aloneL {w : Wd} {C : Cl} (hc : ShM w) (hx : IsM w C) (hI : CI C) {h : Nat} (hh : h < 12) : fX8_alone_L18 0 (nI h) (0, 0, w) = some (nI (alS C h), w) := by
  have hG : cG C ≤ 8 := hI.1.2
  have a0 := hc.O
  unfold fX8_alone_L18
  refine it_for (fun i => (nI (bN (fun g => gnS C g h) i), nI i, w)) (cG C) (by omega) (fun i hi => ?_) ?_
  · have h256 := bN_256 (fun g => gnS C g h) (show i ≤ 8 by omega)
    unfold fX8_alone_L18_body
    simp only [chk_t a0, ob_s, hx.1.2.1, nI_le_iff (show cG C < 2147483648 by omega) (show i < 2147483648 by omega), if_neg (Nat.not_le.mpr hi), X8_goesNow hc hx hI hi hh, or_bit i (by omega) _ h256, bnd_e, fX8_alone_b41, nI_1, bN_s]
    cases gnS C i h <;> rfl
  · unfold fX8_alone_L18_body
    simp only [chk_t a0, hx.1.2.1, if_pos (Int32.le_refl _), wr_s]
    rfl
/-! the hours in which somebody is not himself -/
def wiS (C : Cl) (p : Nat) : Nat := cntN (fun h => decide (doesS C p h ≠ cOw C p h)) 12
theorem X7_winsL {w : Wd} {C : Cl} (hs : ShX w) (hx : IsX w 3 C) (hI : CI C) {p : Nat} (hp : p < cP C) : fX7_wins_L21 0 (nI p) (0, 0, w) = some (nI (wiS C p), w) := by
  have hP : cP C ≤ 6 := hI.1.1
  have hc := hs.cl (Or.inl rfl)
  obtain ⟨a1, a2, a3, a4, a5, a6, a7, a8, -⟩ := hc.B
  obtain ⟨p1, p2, p3, p4, p5, p6, p7⟩ := hc.P (show p < 6 by omega)
  obtain ⟨t1, t2, t3, t4, t5, t6, t7, t8, t9⟩ := hs.T
  unfold fX7_wins_L21
  refine it_for (fun i => (nI (cntN (fun h => decide (doesS C p h ≠ cOw C p h)) i), nI i, w)) 12 (by decide) (fun i hi => ?_) ?_
  · obtain ⟨n1, n2⟩ := inb12 hi
    have o1 := (hx.2.1 p hp).2 i hi
    have o2 := (hI.2.1 p hp).2 i hi
    have o3 := does_le hI hp hi
    unfold fX7_wins_L21_body
    simp only [leL12 (show i < 2147483648 by omega), if_neg (Nat.not_le.mpr hi), chk_t t1, t4, ob_s, chk_t a1, X0_deedOf hc hx hI hp hi, a2, chk_t a5, a6, chk_t p1, p2, p3, chk_t p4, p5, chk_t p6, p7, chk_t n1, n2, o1, nI_eq_iff (show doesS C p i < 2147483648 by omega) (show cOw C p i < 2147483648 by omega), fX7_wins_b56, nI_1, cntN_s]
    by_cases e : doesS C p i = cOw C p i
    · rw [if_pos e, if_neg (show ¬ decide (doesS C p i ≠ cOw C p i) = true from fun q => (of_decide_eq_true q) e)]
      rfl
    · rw [if_neg e, if_pos (decide_eq_true e)]
  · rfl
theorem X8_winsL {w : Wd} {C : Cl} (hc : ShM w) (hx : IsM w C) (hI : CI C) {p : Nat} (hp : p < cP C) : fX8_wins_L18 0 (nI p) (0, 0, w) = some (nI (wiS C p), w) := by
  have hP : cP C ≤ 6 := hI.1.1
  have a0 := hc.O
  obtain ⟨d1, d2, d3⟩ := hc.a5
  unfold fX8_wins_L18
  refine it_for (fun i => (nI (cntN (fun h => decide (doesS C p h ≠ cOw C p h)) i), nI i, w)) 12 (by decide) (fun i hi => ?_) ?_
  · obtain ⟨y1, y2⟩ := inb72 (show p < 6 by omega) hi
    have o1 := (hx.2.1 p hp).2 i hi
    have o2 := (hI.2.1 p hp).2 i hi
    have o3 := does_le hI hp hi
    unfold fX8_wins_L18_body
    simp only [leL12 (show i < 2147483648 by omega), if_neg (Nat.not_le.mpr hi), chk_t a0, ob_s, X8_doesNow hc hx hI hp hi, d1, chk_t d2, d3, tw_mul_nI, nI_add, chk_t y1, y2, o1, nI_eq_iff (show doesS C p i < 2147483648 by omega) (show cOw C p i < 2147483648 by omega), fX8_wins_b47, nI_1, cntN_s]
    by_cases e : doesS C p i = cOw C p i
    · rw [if_pos e, if_neg (show ¬ decide (doesS C p i ≠ cOw C p i) = true from fun q => (of_decide_eq_true q) e)]
      rfl
    · rw [if_neg e, if_pos (decide_eq_true e)]
  · rfl
