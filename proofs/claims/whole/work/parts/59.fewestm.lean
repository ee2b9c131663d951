/-! the fewest garments off, in the model -/
theorem X8_cureG {w : Wd} {C : Cl} (hc : ShM w) (hx : IsM w C) (hI : CI C) {p : Nat} (hp : p < cP C) : fX8_cure_L134 0 (nI p) (nI (bN (wrS C p) (cG C))) (nI (bN (wrS C p) (cG C)), 0, w) = some (nI (fwR C p), w) := by
  have hG : cG C ≤ 8 := hI.1.2
  have hP : cP C ≤ 6 := hI.1.1
  have a0 := hc.O
  have hM := bN_256 (wrS C p) hG
  have hMl := bN_lt (wrS C p) (cG C)
  have h2 : (2 : Nat) ^ cG C ≤ 2 ^ 8 := Nat.pow_le_pow_right (by decide) hG
  have h3 : (2 : Nat) ^ 8 = 256 := rfl
  have hb : ∀ g, g < cG C → (bN (wrS C p) (cG C)).testBit g = wrS C p g := fun g hg => by
    rw [bN_bit]
    simp [hg]
  unfold fwR
  generalize bN (wrS C p) (cG C) = M at hM hMl hb ⊢
  have hend : fwS C p M M = fwS C p M (2 ^ cG C) := by
    have := fwS_end C p hM (2 ^ cG C - M) (by omega)
    rw [show M + (2 ^ cG C - M) = 2 ^ cG C by omega] at this
    exact this.symm
  rw [hend]
  unfold fX8_cure_L134
  refine it_for (fun i => (nI (fwS C p M i), nI i, w)) (2 ^ cG C) (by omega) (fun i hi => ?_) ?_
  · have hlt := fwS_lt C p hM i (by omega)
    have hs : seS C p (wnM C p i) (cWl C p) = seS C p (fun g => (M &&& (255 - i)).testBit g) (cWl C p) := seS_congr (fun g hg => by
      rw [Nat.testBit_and, hb g hg, cm_bit g (by omega) i (by omega)]
      rfl)
    unfold fX8_cure_L134_body
    simp only [chk_t a0, hx.1.2.1, sl_8 (cG C) (by omega), nI_le_iff (show 2 ^ cG C < 2147483648 by omega) (show i < 2147483648 by omega), if_neg (Nat.not_le.mpr hi), nd_c M hM i (by omega), eqL0 (show i &&& (255 - M) < 2147483648 from Nat.lt_of_lt_of_le (and_256 i M (by omega)) (by decide)), J6_bc, ob_s, X8_isHimself hc hx hI hp (show i < 256 by omega), hs, fX8_cure_b181, nI_1, fwS_s]
    by_cases e1 : i &&& (255 - M) = 0
    · rw [if_pos e1]
      by_cases e2 : bcI (nI (fwS C p M i)) ≤ bcI (nI i)
      · rw [if_pos e2, if_neg (fun q => q.2.1 e2)]
      · rw [if_neg e2]
        by_cases e3 : seS C p (fun g => (M &&& (255 - i)).testBit g) (cWl C p) = true
        · rw [if_pos (⟨e1, e2, e3⟩ : _ ∧ _ ∧ _), if_pos e3]
          rfl
        · rw [if_neg (fun q : _ ∧ _ ∧ _ => e3 q.2.2), if_neg e3]
          rfl
    · rw [if_neg e1, if_neg (fun q : _ ∧ _ ∧ _ => e1 q.1)]
  · unfold fX8_cure_L134_body
    simp only [chk_t a0, hx.1.2.1, sl_8 (cG C) (by omega), if_pos (Int32.le_refl _), wr_s]
theorem X8_cureM {w : Wd} {C : Cl} (hc : ShM w) (hx : IsM w C) (hI : CI C) {p : Nat} (hp : p < cP C) : fX8_cure_L95 0 (nI p) (0, 0, w) = some (nI (fwR C p), w) := by
  have hG : cG C ≤ 8 := hI.1.2
  have hP : cP C ≤ 6 := hI.1.1
  have a0 := hc.O
  obtain ⟨e1, e2, e3⟩ := hc.a8
  unfold fX8_cure_L95
  refine it_for (fun i => (nI (bN (wrS C p) i), nI i, w)) (cG C) (by omega) (fun i hi => ?_) ?_
  · obtain ⟨b1, b2⟩ := inb8 (show i < 8 by omega)
    obtain ⟨⟨k1, k2, k3⟩, k4⟩ := hx.2.2 i hi
    obtain ⟨⟨q1, q3, q4⟩, q2⟩ := hI.2.2 i hi
    have h256 := bN_256 (wrS C p) (show i ≤ 8 by omega)
    unfold fX8_cure_L95_body
    simp only [chk_t a0, hx.1.2.1, nI_le_iff (show cG C < 2147483648 by omega) (show i < 2147483648 by omega), if_neg (Nat.not_le.mpr hi), e1, ob_s, chk_t e2, e3, chk_t b1, b2, k3, wv_eq (show cWr C i < 100 by omega) (show p < 100 by omega), or_bit i (by omega) _ h256, bnd_e, fX8_cure_b122, nI_1, bN_s]
    by_cases f : cWr C i = p + 1
    · rw [if_pos f, if_pos (show wrS C p i = true from decide_eq_true f)]
    · rw [if_neg f, if_neg (show ¬ wrS C p i = true from fun q => f (of_decide_eq_true q))]
  · unfold fX8_cure_L95_body
    simp only [chk_t a0, hx.1.2.1, if_pos (Int32.le_refl _), X8_cureG hc hx hI hp, wr_s]
