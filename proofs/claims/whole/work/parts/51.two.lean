/-! two garments -/
def stS (C : Cl) (g k : Nat) : Nat := cntN (fun h => decide (cHb C g h ≠ 0 ∧ cHb C k h ≠ 0 ∧ cHb C g h ≠ cHb C k h)) 12
def paS (C : Cl) (g k : Nat) : Nat := cntN (fun h => decide (pullS C k h < pullS C g h)) 12
theorem X0_hoursInStrife {w : Wd} {b : Nat} {C : Cl} (hc : ClS w b) (hx : IsX w b C) (hI : CI C) {g k : Nat} (hg : g < cG C) (hk : k < cG C) : fX0_hoursInStrife b (nI g) (nI k) w = some (nI (stS C g k), w) := by
  have hG : cG C ≤ 8 := hI.1.2
  obtain ⟨a1, a2, a3, a4, a5, a6, a7, a8, -⟩ := hc.B
  obtain ⟨b1, b2, b3, b4, b5, b6, b7, b8, b9, b10⟩ := hc.G (show g < 8 by omega)
  obtain ⟨d1, d2, d3, d4, d5, d6, d7, d8, d9, d10⟩ := hc.G (show k < 8 by omega)
  unfold fX0_hoursInStrife fX0_hoursInStrife_L5
  refine it_for (fun i => (nI (cntN (fun h => decide (cHb C g h ≠ 0 ∧ cHb C k h ≠ 0 ∧ cHb C g h ≠ cHb C k h)) i), nI i, w)) 12 (by decide) (fun i hi => ?_) ?_
  · obtain ⟨n1, n2⟩ := inb12 hi
    have o1 := ((hx.2.2 k hk).2 i hi).1
    have o2 := ((hI.2.2 k hk).2 i hi).1
    have r1 := ((hx.2.2 g hg).2 i hi).1
    have r2 := ((hI.2.2 g hg).2 i hi).1
    unfold fX0_hoursInStrife_L5_body
    simp only [leL12 (show i < 2147483648 by omega), if_neg (Nat.not_le.mpr hi), chk_t a1, a3, ob_s, chk_t a7, a8, chk_t b1, b2, b3, chk_t b4, b5, chk_t b7, b8, chk_t d1, d2, d3, chk_t d4, d5, chk_t d7, d8, chk_t n1, n2, o1, r1, bnd_e, eqL0 (show cHb C g i < 2147483648 by omega), eqL0 (show cHb C k i < 2147483648 by omega), nI_eq_iff (show cHb C g i < 2147483648 by omega) (show cHb C k i < 2147483648 by omega), fX0_hoursInStrife_b60, nI_1, cntN_s]
    by_cases e : cHb C g i = 0
    · rw [if_pos e, if_neg (fun q => (of_decide_eq_true q).1 e)]
      rfl
    · rw [if_neg e]
      by_cases e2 : cHb C k i = 0
      · rw [if_pos e2, if_neg (fun q => (of_decide_eq_true q).2.1 e2)]
        rfl
      · rw [if_neg e2]
        by_cases e3 : cHb C g i = cHb C k i
        · rw [if_pos e3, if_neg (fun q => (of_decide_eq_true q).2.2 e3)]
          rfl
        · rw [if_neg e3, if_pos (decide_eq_true ⟨e, e2, e3⟩)]
  · rfl
theorem X0_habitsPatched {w : Wd} {b : Nat} {C : Cl} (hc : ClS w b) (hx : IsX w b C) (hI : CI C) {g k : Nat} (hg : g < cG C) (hk : k < cG C) : fX0_habitsPatched b (nI g) (nI k) w = some (nI (paS C g k), w) := by
  obtain ⟨a1, -⟩ := hc.B
  unfold fX0_habitsPatched fX0_habitsPatched_L5
  refine it_for (fun i => (nI (cntN (fun h => decide (pullS C k h < pullS C g h)) i), nI i, w)) 12 (by decide) (fun i hi => ?_) ?_
  · have o1 := pull_le hI hg hi
    have o2 := pull_le hI hk hi
    unfold fX0_habitsPatched_L5_body
    simp only [leL12 (show i < 2147483648 by omega), if_neg (Nat.not_le.mpr hi), chk_t a1, ob_s, X0_pullOf hc hx hI hg hi, X0_pullOf hc hx hI hk hi, nI_le_iff (show pullS C g i < 2147483648 by omega) (show pullS C k i < 2147483648 by omega), fX0_habitsPatched_b32, nI_1, cntN_s]
    by_cases e : pullS C k i < pullS C g i
    · rw [if_neg (Nat.not_le.mpr e), if_pos (decide_eq_true e)]
    · rw [if_pos (Nat.not_lt.mp e), if_neg (fun q => e (of_decide_eq_true q))]
      rfl
  · rfl
theorem X8_twoL0 {w : Wd} {C : Cl} (hc : ShM w) (hx : IsM w C) (hI : CI C) {g k : Nat} (hg : g < cG C) (hk : k < cG C) : fX8_two_L56 0 (nI g) (nI k) 0 (0, 0, w) = some (nI (stS C g k), w) := by
  have hG : cG C ≤ 8 := hI.1.2
  have a0 := hc.O
  obtain ⟨c1, c2, c3⟩ := hc.a9
  unfold fX8_two_L56
  refine it_for (fun i => (nI (cntN (fun h => decide (cHb C g h ≠ 0 ∧ cHb C k h ≠ 0 ∧ cHb C g h ≠ cHb C k h)) i), nI i, w)) 12 (by decide) (fun i hi => ?_) ?_
  · obtain ⟨m1, m2⟩ := inb96 (show g < 8 by omega) hi
    obtain ⟨n1, n2⟩ := inb96 (show k < 8 by omega) hi
    have o1 := ((hx.2.2 k hk).2 i hi).1
    have o2 := ((hI.2.2 k hk).2 i hi).1
    have r1 := ((hx.2.2 g hg).2 i hi).1
    have r2 := ((hI.2.2 g hg).2 i hi).1
    unfold fX8_two_L56_body
    simp only [leL12 (show i < 2147483648 by omega), if_neg (Nat.not_le.mpr hi), chk_t a0, c1, ob_s, chk_t c2, c3, tw_mul_nI, nI_add, chk_t m1, m2, chk_t n1, n2, o1, r1, bnd_e, if_pos, eqL0 (show cHb C g i < 2147483648 by omega), eqL0 (show cHb C k i < 2147483648 by omega), nI_eq_iff (show cHb C g i < 2147483648 by omega) (show cHb C k i < 2147483648 by omega), fX8_two_b135, fX8_two_b132, nI_1, cntN_s]
    by_cases e : cHb C g i = 0
    · rw [if_pos e, if_neg (fun q => (of_decide_eq_true q).1 e)]
      rfl
    · rw [if_neg e]
      by_cases e2 : cHb C k i = 0
      · rw [if_pos e2, if_neg (fun q => (of_decide_eq_true q).2.1 e2)]
        rfl
      · rw [if_neg e2]
        by_cases e3 : cHb C g i = cHb C k i
        · rw [if_pos e3, if_neg (fun q => (of_decide_eq_true q).2.2 e3)]
          rfl
        · rw [if_neg e3, if_pos (decide_eq_true ⟨e, e2, e3⟩)]
  · rfl
theorem X8_twoL1 {w : Wd} {C : Cl} (hc : ShM w) (hx : IsM w C) (hI : CI C) {g k : Nat} (hg : g < cG C) (hk : k < cG C) {z : Int32} (hz : ¬ z = 0) : fX8_two_L56 0 (nI g) (nI k) z (0, 0, w) = some (nI (paS C g k), w) := by
  have hG : cG C ≤ 8 := hI.1.2
  have a0 := hc.O
  obtain ⟨c1, c2, c3⟩ := hc.a9
  unfold fX8_two_L56
  refine it_for (fun i => (nI (cntN (fun h => decide (pullS C k h < pullS C g h)) i), nI i, w)) 12 (by decide) (fun i hi => ?_) ?_
  · obtain ⟨m1, m2⟩ := inb96 (show g < 8 by omega) hi
    obtain ⟨n1, n2⟩ := inb96 (show k < 8 by omega) hi
    have o1 := pull_le hI hg hi
    have o2 := pull_le hI hk hi
    unfold fX8_two_L56_body
    simp only [leL12 (show i < 2147483648 by omega), if_neg (Nat.not_le.mpr hi), chk_t a0, c1, ob_s, chk_t c2, c3, tw_mul_nI, nI_add, chk_t m1, m2, chk_t n1, n2, bnd_e, if_neg hz, X8_pull hc hx hI hg hi, X8_pull hc hx hI hk hi, nI_le_iff (show pullS C g i < 2147483648 by omega) (show pullS C k i < 2147483648 by omega), fX8_two_b135, fX8_two_b132, nI_1, cntN_s]
    by_cases e : pullS C k i < pullS C g i
    · rw [if_neg (Nat.not_le.mpr e), if_pos (decide_eq_true e)]
    · rw [if_pos (Nat.not_lt.mp e), if_neg (fun q => e (of_decide_eq_true q))]
      rfl
  · rfl
