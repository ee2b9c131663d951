theorem inb96 {g h : Nat} (hg : g < 8) (hh : h < 12) : inb (nI (12 * g + h)) 96 ∧ (nI (12 * g + h)).toNatClampNeg = 12 * g + h := ⟨inb_nI (by omega) (by decide), nI_clamp (by omega)⟩
theorem inb72 {p h : Nat} (hp : p < 6) (hh : h < 12) : inb (nI (12 * p + h)) 72 ∧ (nI (12 * p + h)).toNatClampNeg = 12 * p + h := ⟨inb_nI (by omega) (by decide), nI_clamp (by omega)⟩
theorem inb8 {g : Nat} (hg : g < 8) : inb (nI g) 8 ∧ (nI g).toNatClampNeg = g := ⟨inb_nI hg (by decide), nI_clamp (by omega)⟩
theorem inb6 {p : Nat} (hp : p < 6) : inb (nI p) 6 ∧ (nI p).toNatClampNeg = p := ⟨inb_nI hp (by decide), nI_clamp (by omega)⟩
theorem X8_pullL {w : Wd} {C : Cl} (hc : ShM w) (hx : IsM w C) (hI : CI C) {g h d f : Nat} (hg : g < cG C) (hh : h < 12) (hd : d < 100) : fX8_pull_L93 0 (nI g) (nI h) (nI d) (nI f) (0, 0, w) = some (nI (f + cAa C g + uni C h d (cG C)), w) := by
  unfold fX8_pull_L93
  have hG : cG C ≤ 8 := hI.1.2
  have a0 := hc.O
  obtain ⟨c1, c2, c3⟩ := hc.a6
  obtain ⟨d1, d2, d3⟩ := hc.a9
  obtain ⟨e1, e2, e3⟩ := hc.a7
  refine it_for (fun i => (nI (uni C h d i), nI i, w)) (cG C) (by omega) (fun i hi => ?_) ?_
  · obtain ⟨b1, b2⟩ := inb8 (show i < 8 by omega)
    obtain ⟨m1, m2⟩ := inb96 (show i < 8 by omega) hh
    obtain ⟨⟨k1, k2, k3⟩, k4⟩ := hx.2.2 i hi
    obtain ⟨⟨q1, -, -⟩, q2⟩ := hI.2.2 i hi
    obtain ⟨r1, -, -⟩ := q2 h hh
    unfold fX8_pull_L93_body
    simp only [chk_t a0, hx.1.2.1, nI_le_iff (show cG C < 2147483648 by omega) (show i < 2147483648 by omega), if_neg (Nat.not_le.mpr hi), c1, ob_s, chk_t c2, c3, chk_t b1, b2, k1, eqL3 (show cKd C i < 2147483648 by omega), d1, chk_t d2, d3, tw_mul_nI, nI_add, chk_t m1, m2, (k4 h hh).1, nI_eq_iff (show cHb C i h < 2147483648 by omega) (show d < 2147483648 by omega), fX8_pull_b132, nI_1]
    show _ = some (Sum.inl (nI (uni C h d (i + 1)), nI (i + 1), w))
    by_cases e1 : cKd C i = 3
    · by_cases e2 : cHb C i h = d
      · rw [if_pos e1, if_pos e2, uni, uni, cntN_s, if_pos (by simp [e1, e2])]
      · rw [if_pos e1, if_neg e2, uni, uni, cntN_s, if_neg (by simp [e2])]
        rfl
    · rw [if_neg e1, uni, uni, cntN_s, if_neg (by simp [e1])]
      rfl
  · obtain ⟨b1, b2⟩ := inb8 (show g < 8 by omega)
    obtain ⟨⟨k1, k2, k3⟩, k4⟩ := hx.2.2 g hg
    unfold fX8_pull_L93_body
    simp only [chk_t a0, hx.1.2.1, if_pos (Int32.le_refl _), e1, ob_s, chk_t e2, e3, chk_t b1, b2, k2, nI_add, wr_s]
    rw [show f + uni C h d (cG C) + cAa C g = f + cAa C g + uni C h d (cG C) by omega]
theorem X8_pull {w : Wd} {C : Cl} (hc : ShM w) (hx : IsM w C) (hI : CI C) {g h : Nat} (hg : g < cG C) (hh : h < 12) : fX8_pull 0 (nI g) (nI h) w = some (nI (pullS C g h), w) := by
  have hG : cG C ≤ 8 := hI.1.2
  have a0 := hc.O
  obtain ⟨c1, c2, c3⟩ := hc.a6
  obtain ⟨d1, d2, d3⟩ := hc.a9
  obtain ⟨f1, f2, f3⟩ := hc.a10
  obtain ⟨e1, e2, e3⟩ := hc.a7
  obtain ⟨b1, b2⟩ := inb8 (show g < 8 by omega)
  obtain ⟨m1, m2⟩ := inb96 (show g < 8 by omega) hh
  obtain ⟨⟨k1, k2, k3⟩, k4⟩ := hx.2.2 g hg
  obtain ⟨⟨q1, q3, -⟩, q2⟩ := hI.2.2 g hg
  obtain ⟨r1, r2, -⟩ := q2 h hh
  unfold fX8_pull
  simp only [chk_t a0, d1, ob_s, chk_t d2, d3, f1, chk_t f2, f3, c1, chk_t c2, c3, e1, chk_t e2, e3, tw_mul_nI, nI_add, chk_t m1, m2, chk_t b1, b2, bnd_e, (k4 h hh).1, (k4 h hh).2, k1, k2, two_mul_nI, X8_pullL hc hx hI hg hh (show cHb C g h < 100 by omega),
    eqL0 (show cHb C g h < 2147483648 by omega), eqL1 (show cKd C g < 2147483648 by omega), eqL2 (show cKd C g < 2147483648 by omega), eqL3 (show cKd C g < 2147483648 by omega), eqL4 (show cKd C g < 2147483648 by omega), eqL5 (show cKd C g < 2147483648 by omega), eqL6 (show cKd C g < 2147483648 by omega), nI_eq_iff (show h < 2147483648 by omega) (show cAa C g < 2147483648 by omega), fX8_pull_b183, fX8_pull_b181, half_nI _ (show cFm C g h < 10 by omega), nI_9, nI_z]
  unfold pullS
  by_cases e0 : cHb C g h = 0
  · rw [if_pos e0, if_pos e0]; rfl
  · rw [if_neg e0, if_neg e0]
    rcases (show cKd C g = 0 ∨ cKd C g = 1 ∨ cKd C g = 2 ∨ cKd C g = 3 ∨ cKd C g = 4 ∨ cKd C g = 5 ∨ cKd C g = 6 by omega) with e | e | e | e | e | e | e <;> rw [e]
    · rfl
    · rfl
    · rfl
    · rfl
    · rfl
    · rfl
    · by_cases e7 : h = cAa C g
      · simp [e7]
      · simp [e7]
/-! bits -/
def bN (f : Nat → Bool) : Nat → Nat
  | 0 => 0
  | n + 1 => if f n then bN f n ||| 2 ^ n else bN f n
theorem bN_s (f : Nat → Bool) (n : Nat) : bN f (n + 1) = if f n then bN f n ||| 2 ^ n else bN f n := rfl
theorem bN_lt (f : Nat → Bool) : ∀ n, bN f n < 2 ^ n
  | 0 => Nat.zero_lt_one
  | n + 1 => by
    have ih := bN_lt f n
    have h2 : 2 ^ n < 2 ^ (n + 1) := Nat.pow_lt_pow_right (by decide) (by omega)
    rw [bN_s]
    split
    · exact Nat.or_lt_two_pow (by omega) h2
    · omega
theorem bN_bit (f : Nat → Bool) (i : Nat) : ∀ n, (bN f n).testBit i = (decide (i < n) && f i)
  | 0 => by simp [bN]
  | n + 1 => by
    have ih := bN_bit f i n
    rw [bN_s]
    by_cases hf : f n = true
    · rw [if_pos hf, Nat.testBit_or, ih, Nat.testBit_two_pow]
      by_cases hi : i = n
      · subst hi
        simp [hf]
      · have : n ≠ i := fun q => hi q.symm
        by_cases h2 : i < n
        · simp [h2, this, show i < n + 1 by omega]
        · simp [h2, this, show ¬ i < n + 1 by omega]
    · rw [if_neg hf, ih]
      by_cases hi : i = n
      · subst hi
        simp [hf]
      · by_cases h2 : i < n
        · simp [h2, show i < n + 1 by omega]
        · simp [h2, show ¬ i < n + 1 by omega]
theorem or_bit : ∀ g, g < 8 → ∀ m, m < 256 → nI m ||| ((1 : Int32) <<< (nI g &&& 31)) = nI (m ||| 2 ^ g) := by decide +kernel
theorem sh_bit : ∀ g, g < 8 → ∀ m, m < 256 → (nI m >>> (nI g &&& 31)) &&& 1 = if m.testBit g then 1 else 0 := by decide +kernel
theorem or_p : ∀ g, g < 8 → ∀ m, m < 2 ^ g → m ||| 2 ^ g < 256 := by decide +kernel
