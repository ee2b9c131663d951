/-! who does what -/
def dF (pl hb : Nat → Nat) (wn : Nat → Bool) (will own : Nat) : Nat → Nat × Nat
  | 0 => (will, own)
  | n + 1 => if wn n = true ∧ (dF pl hb wn will own n).1 < pl n then (pl n, hb n) else dF pl hb wn will own n
theorem dF_s (pl hb : Nat → Nat) (wn : Nat → Bool) (will own n : Nat) : dF pl hb wn will own (n + 1) = if wn n = true ∧ (dF pl hb wn will own n).1 < pl n then (pl n, hb n) else dF pl hb wn will own n := rfl
theorem dF_congr {pl hb pl' hb' : Nat → Nat} {wn wn' : Nat → Bool} {will own : Nat} : ∀ n, (∀ g, g < n → pl g = pl' g ∧ hb g = hb' g ∧ wn g = wn' g) → dF pl hb wn will own n = dF pl' hb' wn' will own n
  | 0, _ => rfl
  | n + 1, h => by
    obtain ⟨h1, h2, h3⟩ := h n (by omega)
    rw [dF_s, dF_s, dF_congr n (fun g hg => h g (by omega)), h1, h2, h3]
theorem dF_bnd {pl hb : Nat → Nat} {wn : Nat → Bool} {will own K L : Nat} (hw : will ≤ K) (ho : own ≤ L) : ∀ n, (∀ g, g < n → pl g ≤ K ∧ hb g ≤ L) → (dF pl hb wn will own n).1 ≤ K ∧ (dF pl hb wn will own n).2 ≤ L
  | 0, _ => ⟨hw, ho⟩
  | n + 1, h => by
    have ih := dF_bnd (wn := wn) hw ho n (fun g hg => h g (by omega))
    rw [dF_s]
    split
    · exact h n (by omega)
    · exact ih
def deedS (C : Cl) (p h : Nat) (wn : Nat → Bool) (will : Nat) : Nat := (dF (fun g => pullS C g h) (fun g => cHb C g h) wn will (cOw C p h) (cG C)).2
/-- the deed of one at an hour -/
def doesS (C : Cl) (p h : Nat) : Nat := deedS C p h (fun g => decide (cWr C g = p + 1)) (cWl C p)
theorem deed_le {C : Cl} (hI : CI C) {p h : Nat} (hp : p < cP C) (hh : h < 12) (wn : Nat → Bool) {will : Nat} (hw : will ≤ 27) : deedS C p h wn will ≤ 9 :=
  (dF_bnd (K := 27) (L := 9) hw ((hI.2.1 p hp).2 h hh) (cG C) (fun g hg => ⟨pull_le hI hg hh, ((hI.2.2 g hg).2 h hh).1⟩)).2
theorem deed_congr {C : Cl} {p h will : Nat} {wn wn' : Nat → Bool} (hw : ∀ g, g < cG C → wn g = wn' g) : deedS C p h wn will = deedS C p h wn' will := by
  unfold deedS
  rw [dF_congr (cG C) (fun g hg => ⟨rfl, rfl, hw g hg⟩)]
theorem wv_inj {a b : Nat} (ha : a < 2147483648) (hb : b < 2147483648) : (wv a = wv b) = (a = b) := by
  apply propext
  constructor
  · intro h
    cases a with
    | zero =>
      cases b with
      | zero => rfl
      | succ b =>
        rw [wv_0, wv_s] at h
        exact absurd (h ▸ (by decide : (-1 : Int32) < 0)) (nI_pos (by omega))
    | succ a =>
      cases b with
      | zero =>
        rw [wv_0, wv_s] at h
        exact absurd (h ▸ (by decide : (-1 : Int32) < 0)) (nI_pos (by omega))
      | succ b =>
        rw [wv_s, wv_s, nI_eq_iff (by omega) (by omega)] at h
        omega
  · intro h
    rw [h]
theorem wv_m1 {a : Nat} (ha : a < 2147483648) : (wv a = -1) = (a = 0) := by
  have := wv_inj (b := 0) ha (by decide)
  rw [wv_0] at this
  exact this
theorem bN_256 (f : Nat → Bool) {n : Nat} (hn : n ≤ 8) : bN f n < 256 := by
  have h2 : (2 : Nat) ^ n ≤ 2 ^ 8 := Nat.pow_le_pow_right (by decide) hn
  have h1 := bN_lt f n
  have h3 : (2 : Nat) ^ 8 = 256 := rfl
  omega
theorem X0_wornBy {w : Wd} {b : Nat} {C : Cl} (hc : ClS w b) (hx : IsX w b C) (hI : CI C) {k : Nat} (hk : k < 100) : fX0_wornBy b (wv k) w = some (nI (bN (fun g => decide (cWr C g = k)) (cG C)), w) := by
  unfold fX0_wornBy fX0_wornBy_L4
  have hG : cG C ≤ 8 := hI.1.2
  have hP : cP C ≤ 6 := hI.1.1
  obtain ⟨a1, a2, a3, a4, a5, a6, a7, a8, -⟩ := hc.B
  refine it_for (fun i => (nI (bN (fun g => decide (cWr C g = k)) i), nI i, w)) (cG C) (by omega) (fun i hi => ?_) ?_
  · obtain ⟨b1, b2, b3, b4, b5, b6, b7, b8, b9, b10⟩ := hc.G (show i < 8 by omega)
    obtain ⟨⟨k1, k2, k3⟩, k4⟩ := hx.2.2 i hi
    obtain ⟨⟨q1, q3, q4⟩, q2⟩ := hI.2.2 i hi
    have h256 := bN_256 (fun g => decide (cWr C g = k)) (show i ≤ 8 by omega)
    unfold fX0_wornBy_L4_body
    simp only [chk_t a1, hx.1.2.1, nI_le_iff (show cG C < 2147483648 by omega) (show i < 2147483648 by omega), if_neg (Nat.not_le.mpr hi), a3, ob_s, chk_t a7, a8, chk_t b1, b2, b3, chk_t b4, k3, wv_inj (show cWr C i < 2147483648 by omega) (show k < 2147483648 by omega), or_bit i (by omega) _ h256, bnd_e, fX0_wornBy_b31, nI_1, bN_s]
    by_cases e1 : cWr C i = k
    · simp [e1]
    · simp [e1]
  · unfold fX0_wornBy_L4_body
    simp only [chk_t a1, hx.1.2.1, if_pos (Int32.le_refl _), wr_s]
theorem X0_deedIn {w : Wd} {b : Nat} {C : Cl} (hc : ClS w b) (hx : IsX w b C) (hI : CI C) {p h m will : Nat} (hp : p < cP C) (hh : h < 12) (hm : m < 256) (hw : will ≤ 27) : fX0_deedIn b (nI p) (nI h) (nI m) (nI will) w = some (nI (deedS C p h (fun g => m.testBit g) will), w) := by
  have hG : cG C ≤ 8 := hI.1.2
  have hP : cP C ≤ 6 := hI.1.1
  obtain ⟨a1, a2, a3, a4, a5, a6, a7, a8, -⟩ := hc.B
  obtain ⟨p1, p2, p3, p4, p5, p6, p7⟩ := hc.P (show p < 6 by omega)
  obtain ⟨n1, n2⟩ := inb12 hh
  have o1 := (hx.2.1 p hp).2 h hh
  have o2 := (hI.2.1 p hp).2 h hh
  unfold fX0_deedIn
  simp only [chk_t a1, a2, ob_s, chk_t a5, a6, chk_t p1, p2, p3, chk_t p4, p5, chk_t p6, p7, chk_t n1, n2, o1, bnd_e]
  unfold fX0_deedIn_L20
  have key := it_for (f := fX0_deedIn_L20_body b (nI h) (nI m)) (fun i => (nI (dF (fun g => pullS C g h) (fun g => cHb C g h) (fun g => m.testBit g) will (cOw C p h) i).2, nI (dF (fun g => pullS C g h) (fun g => cHb C g h) (fun g => m.testBit g) will (cOw C p h) i).1, nI i, w)) (cG C) (r := (nI (deedS C p h (fun g => m.testBit g) will), w)) (by omega) (fun i hi => ?_) ?_
  · exact key
  · obtain ⟨b1, b2, b3, b4, b5, b6, b7, b8, b9, b10⟩ := hc.G (show i < 8 by omega)
    obtain ⟨⟨k1, k2, k3⟩, k4⟩ := hx.2.2 i hi
    have hb := dF_bnd (wn := fun g => m.testBit g) (K := 27) (L := 9) hw o2 i (fun g hg => ⟨pull_le hI (show g < cG C by omega) hh, ((hI.2.2 g (by omega)).2 h hh).1⟩)
    have hpl := pull_le hI hi hh
    unfold fX0_deedIn_L20_body
    simp only [chk_t a1, hx.1.2.1, nI_le_iff (show cG C < 2147483648 by omega) (show i < 2147483648 by omega), if_neg (Nat.not_le.mpr hi), sh_bit i (by omega) m hm, X0_pullOf hc hx hI hi hh, ob_s, a3, chk_t a7, a8, chk_t b1, b2, b3, chk_t b4, b5, chk_t b7, b8, chk_t n1, n2, (k4 h hh).1, bnd_e, fX0_deedIn_b72, nI_1, dF_s]
    generalize dF (fun g => pullS C g h) (fun g => cHb C g h) (fun g => m.testBit g) will (cOw C p h) i = t at hb ⊢
    by_cases e1 : m.testBit i = true
    · rw [if_pos e1, if_neg (show ¬ (1 : Int32) = 0 by decide)]
      simp only [nI_le_iff (show pullS C i h < 2147483648 by omega) (show t.1 < 2147483648 by omega)]
      by_cases e2 : pullS C i h ≤ t.1
      · rw [if_pos e2, if_neg (fun q => by omega)]
      · rw [if_neg e2, if_pos ⟨e1, by omega⟩]
    · rw [if_neg e1, if_pos rfl, if_neg (fun q => e1 q.1)]
  · unfold fX0_deedIn_L20_body
    simp only [chk_t a1, hx.1.2.1, if_pos (Int32.le_refl _), wr_s]
    rfl
theorem X0_deedOf {w : Wd} {b : Nat} {C : Cl} (hc : ClS w b) (hx : IsX w b C) (hI : CI C) {p h : Nat} (hp : p < cP C) (hh : h < 12) : fX0_deedOf b (nI p) (nI h) w = some (nI (doesS C p h), w) := by
  have hG : cG C ≤ 8 := hI.1.2
  have hP : cP C ≤ 6 := hI.1.1
  obtain ⟨a1, a2, a3, a4, a5, a6, a7, a8, -⟩ := hc.B
  obtain ⟨p1, p2, p3, p4, p5, p6, p7⟩ := hc.P (show p < 6 by omega)
  have o1 := (hx.2.1 p hp).1
  have o2 := (hI.2.1 p hp).1
  have hwb := X0_wornBy hc hx hI (show p + 1 < 100 by omega)
  rw [wv_s] at hwb
  unfold fX0_deedOf
  simp only [chk_t a1, hwb, ob_s, a2, chk_t a5, a6, chk_t p1, p2, p3, chk_t p4, o1, X0_deedIn hc hx hI hp hh (bN_256 _ hG) (show cWl C p ≤ 27 by omega)]
  exact congrArg (fun d => some (nI d, w)) (deed_congr (fun g hg => by rw [bN_bit]; simp [hg]))
/-! the same of the model -/
def fF (pl : Nat → Nat) (wn : Nat → Bool) : Nat → Nat
  | 0 => 0
  | n + 1 => if wn n = true ∧ (fF pl wn n = 0 ∨ pl (fF pl wn n - 1) < pl n) then n + 1 else fF pl wn n
theorem fF_s (pl : Nat → Nat) (wn : Nat → Bool) (n : Nat) : fF pl wn (n + 1) = if wn n = true ∧ (fF pl wn n = 0 ∨ pl (fF pl wn n - 1) < pl n) then n + 1 else fF pl wn n := rfl
theorem fF_le (pl : Nat → Nat) (wn : Nat → Bool) : ∀ n, fF pl wn n ≤ n
  | 0 => Nat.le_refl 0
  | n + 1 => by
    have := fF_le pl wn n
    rw [fF_s]
    split <;> omega
theorem fF_dF (pl hb : Nat → Nat) (wn : Nat → Bool) (will own : Nat) : ∀ n, dF pl hb wn will own n = if fF pl wn n ≠ 0 ∧ will < pl (fF pl wn n - 1) then (pl (fF pl wn n - 1), hb (fF pl wn n - 1)) else (will, own)
  | 0 => by
    rw [if_neg (fun q => q.1 rfl)]
    rfl
  | n + 1 => by
    have ih := fF_dF pl hb wn will own n
    by_cases e1 : wn n = true ∧ (fF pl wn n = 0 ∨ pl (fF pl wn n - 1) < pl n)
    · have hf : fF pl wn (n + 1) = n + 1 := by rw [fF_s, if_pos e1]
      rw [dF_s, hf, ih, Nat.add_sub_cancel]
      obtain ⟨e1, e2⟩ := e1
      by_cases e4 : fF pl wn n ≠ 0 ∧ will < pl (fF pl wn n - 1)
      · have e5 : pl (fF pl wn n - 1) < pl n := e2.elim (fun q => absurd q e4.1) id
        have e6 : will < pl n := Nat.lt_trans e4.2 e5
        rw [if_pos e4, if_pos ⟨e1, e5⟩, if_pos ⟨Nat.succ_ne_zero n, e6⟩]
      · rw [if_neg e4]
        by_cases e5 : will < pl n
        · rw [if_pos ⟨e1, e5⟩, if_pos ⟨Nat.succ_ne_zero n, e5⟩]
        · rw [if_neg (fun q => e5 q.2), if_neg (fun q => e5 q.2)]
    · have hf : fF pl wn (n + 1) = fF pl wn n := by rw [fF_s, if_neg e1]
      rw [dF_s, hf, ih]
      by_cases e4 : fF pl wn n ≠ 0 ∧ will < pl (fF pl wn n - 1)
      · rw [if_pos e4, if_neg (fun q => e1 ⟨q.1, Or.inr q.2⟩)]
      · rw [if_neg e4]
        refine if_neg (fun q => ?_)
        by_cases e6 : fF pl wn n = 0
        · exact e1 ⟨q.1, Or.inl e6⟩
        · refine e1 ⟨q.1, Or.inr ?_⟩
          have h1 : ¬ will < pl (fF pl wn n - 1) := fun r => e4 ⟨e6, r⟩
          have h2 : will < pl n := q.2
          omega
