/-! like and whose -/
def lkS (C : Cl) (g p : Nat) : Nat := cntN (fun h => decide (cHb C g h ≠ 0 ∧ cHb C g h = cOw C p h)) 12
theorem X0_likeness {w : Wd} {b : Nat} {C : Cl} (hc : ClS w b) (hx : IsX w b C) (hI : CI C) {g p : Nat} (hg : g < cG C) (hp : p < cP C) : fX0_likeness b (nI g) (nI p) w = some (nI (lkS C g p), w) := by
  have hG : cG C ≤ 8 := hI.1.2
  have hP : cP C ≤ 6 := hI.1.1
  obtain ⟨a1, a2, a3, a4, a5, a6, a7, a8, -⟩ := hc.B
  obtain ⟨b1, b2, b3, b4, b5, b6, b7, b8, b9, b10⟩ := hc.G (show g < 8 by omega)
  obtain ⟨p1, p2, p3, p4, p5, p6, p7⟩ := hc.P (show p < 6 by omega)
  unfold fX0_likeness fX0_likeness_L5
  refine it_for (fun i => (nI (cntN (fun h => decide (cHb C g h ≠ 0 ∧ cHb C g h = cOw C p h)) i), nI i, w)) 12 (by decide) (fun i hi => ?_) ?_
  · obtain ⟨n1, n2⟩ := inb12 hi
    have o1 := (hx.2.1 p hp).2 i hi
    have o2 := (hI.2.1 p hp).2 i hi
    have r1 := ((hx.2.2 g hg).2 i hi).1
    have r2 := ((hI.2.2 g hg).2 i hi).1
    unfold fX0_likeness_L5_body
    simp only [leL12 (show i < 2147483648 by omega), if_neg (Nat.not_le.mpr hi), chk_t a1, a2, a3, ob_s, chk_t a5, a6, chk_t a7, a8, chk_t b1, b2, b3, chk_t b4, b5, chk_t b7, b8, chk_t p1, p2, p3, chk_t p4, p5, chk_t p6, p7, chk_t n1, n2, o1, r1, bnd_e, eqL0 (show cOw C p i < 2147483648 by omega), nI_eq_iff (show cHb C g i < 2147483648 by omega) (show cOw C p i < 2147483648 by omega), fX0_likeness_b51, nI_1, cntN_s]
    by_cases e : cOw C p i = 0
    · rw [if_pos e, if_neg (fun q => (of_decide_eq_true q).1 ((of_decide_eq_true q).2.trans e))]
      rfl
    · rw [if_neg e]
      by_cases e2 : cHb C g i = cOw C p i
      · rw [if_pos e2, if_pos (decide_eq_true ⟨fun q => e (e2.symm.trans q), e2⟩)]
      · rw [if_neg e2, if_neg (fun q => e2 (of_decide_eq_true q).2)]
        rfl
  · rfl
theorem X8_likeOf {w : Wd} {C : Cl} (hc : ShM w) (hx : IsM w C) (hI : CI C) {g p : Nat} (hg : g < cG C) (hp : p < cP C) : fX8_likeOf 0 (nI g) (nI p) w = some (nI (lkS C g p), w) := by
  have hG : cG C ≤ 8 := hI.1.2
  have hP : cP C ≤ 6 := hI.1.1
  have a0 := hc.O
  obtain ⟨c1, c2, c3⟩ := hc.a9
  obtain ⟨d1, d2, d3⟩ := hc.a5
  unfold fX8_likeOf fX8_likeOf_L5
  refine it_for (fun i => (nI (cntN (fun h => decide (cHb C g h ≠ 0 ∧ cHb C g h = cOw C p h)) i), nI i, w)) 12 (by decide) (fun i hi => ?_) ?_
  · obtain ⟨m1, m2⟩ := inb96 (show g < 8 by omega) hi
    obtain ⟨y1, y2⟩ := inb72 (show p < 6 by omega) hi
    have o1 := (hx.2.1 p hp).2 i hi
    have o2 := (hI.2.1 p hp).2 i hi
    have r1 := ((hx.2.2 g hg).2 i hi).1
    have r2 := ((hI.2.2 g hg).2 i hi).1
    unfold fX8_likeOf_L5_body
    simp only [leL12 (show i < 2147483648 by omega), if_neg (Nat.not_le.mpr hi), chk_t a0, c1, ob_s, chk_t c2, c3, d1, chk_t d2, d3, tw_mul_nI, nI_add, chk_t m1, m2, chk_t y1, y2, o1, r1, eqL0 (show cHb C g i < 2147483648 by omega), nI_eq_iff (show cHb C g i < 2147483648 by omega) (show cOw C p i < 2147483648 by omega), fX8_likeOf_b57, nI_1, cntN_s]
    by_cases e : cHb C g i = 0
    · rw [if_pos e, if_neg (fun q => (of_decide_eq_true q).1 e)]
      rfl
    · rw [if_neg e]
      by_cases e2 : cHb C g i = cOw C p i
      · rw [if_pos e2, if_pos (decide_eq_true ⟨e, e2⟩)]
      · rw [if_neg e2, if_neg (fun q => e2 (of_decide_eq_true q).2)]
        rfl
  · rfl
theorem lk_le (C : Cl) (g p : Nat) : lkS C g p ≤ 12 := cntN_le _ 12
/-- whom a garment is most like (0 nobody), of the first n -/
def whS (C : Cl) (g : Nat) : Nat → Nat
  | 0 => 0
  | n + 1 => if (if whS C g n = 0 then 0 else lkS C g (whS C g n - 1)) < lkS C g n then n + 1 else whS C g n
theorem whS_s (C : Cl) (g n : Nat) : whS C g (n + 1) = if (if whS C g n = 0 then 0 else lkS C g (whS C g n - 1)) < lkS C g n then n + 1 else whS C g n := rfl
theorem whS_le (C : Cl) (g : Nat) : ∀ n, whS C g n ≤ n
  | 0 => Nat.le_refl 0
  | n + 1 => by
    have := whS_le C g n
    rw [whS_s]
    by_cases e : (if whS C g n = 0 then 0 else lkS C g (whS C g n - 1)) < lkS C g n
    · rw [if_pos e]; omega
    · rw [if_neg e]; omega
theorem nI_m1 {t : Nat} (h : t < 2147483648) : ¬ nI t = -1 := fun q => absurd (q ▸ (by decide : (-1 : Int32) < 0)) (nI_pos h)
theorem X0_mostLike {w : Wd} {b : Nat} {C : Cl} (hc : ClS w b) (hx : IsX w b C) (hI : CI C) {g : Nat} (hg : g < cG C) : fX0_mostLike b (nI g) w = some (wv (whS C g (cP C)), w) := by
  have hP : cP C ≤ 6 := hI.1.1
  obtain ⟨a1, -⟩ := hc.B
  unfold fX0_mostLike fX0_mostLike_L7
  refine it_for (fun i => (wv (whS C g i), nI (if whS C g i = 0 then 0 else lkS C g (whS C g i - 1)), nI i, w)) (cP C) (by omega) (fun i hi => ?_) ?_
  · have hl := lk_le C g i
    have hl2 : (if whS C g i = 0 then 0 else lkS C g (whS C g i - 1)) ≤ 12 := by
      have := lk_le C g (whS C g i - 1)
      by_cases e : whS C g i = 0
      · rw [if_pos e]; omega
      · rw [if_neg e]; omega
    unfold fX0_mostLike_L7_body
    simp only [chk_t a1, hx.1.1, nI_le_iff (show cP C < 2147483648 by omega) (show i < 2147483648 by omega), if_neg (Nat.not_le.mpr hi), X0_likeness hc hx hI hg hi, ob_s, fX0_mostLike_b37, nI_1]
    rw [whS_s]
    generalize hm : (if whS C g i = 0 then 0 else lkS C g (whS C g i - 1)) = m at hl2 ⊢
    simp only [nI_le_iff (show lkS C g i < 2147483648 by omega) (show m < 2147483648 by omega)]
    by_cases e : m < lkS C g i
    · rw [if_neg (Nat.not_le.mpr e), if_pos e, if_neg (Nat.succ_ne_zero i), Nat.add_sub_cancel, wv_s]
    · rw [if_pos (Nat.not_lt.mp e), if_neg e, hm]
  · unfold fX0_mostLike_L7_body
    simp only [chk_t a1, hx.1.1, if_pos (Int32.le_refl _), wr_s]
theorem X8_whoseOf {w : Wd} {C : Cl} (hc : ShM w) (hx : IsM w C) (hI : CI C) {g : Nat} (hg : g < cG C) : fX8_whoseOf 0 (nI g) w = some (wv (whS C g (cP C)), w) := by
  have hP : cP C ≤ 6 := hI.1.1
  have a0 := hc.O
  unfold fX8_whoseOf fX8_whoseOf_L4
  refine it_for (fun i => (wv (whS C g i), nI i, w)) (cP C) (by omega) (fun i hi => ?_) ?_
  · have hl := lk_le C g i
    have hw := whS_le C g i
    unfold fX8_whoseOf_L4_body
    simp only [chk_t a0, hx.1.1, nI_le_iff (show cP C < 2147483648 by omega) (show i < 2147483648 by omega), if_neg (Nat.not_le.mpr hi), X8_likeOf hc hx hI hg hi, ob_s, fX8_whoseOf_b33, fX8_whoseOf_b38, nI_1, leR0 (show lkS C g i < 2147483648 by omega)]
    rw [whS_s]
    generalize whS C g i = t at hw ⊢
    cases t with
    | zero =>
      rw [wv_0, if_pos rfl, if_pos rfl]
      by_cases e : lkS C g i = 0
      · rw [if_pos (by omega), if_neg (by omega), wv_0]
      · rw [if_neg (by omega), if_pos (by omega), wv_s]
    | succ t =>
      have hl2 := lk_le C g t
      simp only [wv_s, if_neg (nI_m1 (show t < 2147483648 by omega)), X8_likeOf hc hx hI hg (show t < cP C by omega), ob_s, nI_le_iff (show lkS C g i < 2147483648 by omega) (show lkS C g t < 2147483648 by omega), if_neg (Nat.succ_ne_zero t), Nat.add_sub_cancel]
      by_cases e : lkS C g i ≤ lkS C g t
      · rw [if_pos e, if_neg (by omega), wv_s]
      · rw [if_neg e, if_pos (by omega), wv_s]
  · unfold fX8_whoseOf_L4_body
    simp only [chk_t a0, hx.1.1, if_pos (Int32.le_refl _), wr_s]
