/-! written numbers -/
theorem eqL0 {k : Nat} (h : k < 2147483648) : (nI k = 0) = (k = 0) := nI_eq_iff (b := 0) h (by decide)
theorem leL0 {k : Nat} (h : k < 2147483648) : ((0 : Int32) ≤ nI k) = (0 ≤ k) := nI_le_iff (a := 0) (by decide) h
theorem ltL0 {k : Nat} (h : k < 2147483648) : ((0 : Int32) < nI k) = (0 < k) := nI_lt_iff (a := 0) (by decide) h
theorem ltR0 {k : Nat} (h : k < 2147483648) : (nI k < 0) = (k < 0) := nI_lt_iff (b := 0) h (by decide)
theorem leR0 {k : Nat} (h : k < 2147483648) : (nI k ≤ 0) = (k ≤ 0) := nI_le_iff (b := 0) h (by decide)
theorem eqL1 {k : Nat} (h : k < 2147483648) : (nI k = 1) = (k = 1) := nI_eq_iff (b := 1) h (by decide)
theorem leL1 {k : Nat} (h : k < 2147483648) : ((1 : Int32) ≤ nI k) = (1 ≤ k) := nI_le_iff (a := 1) (by decide) h
theorem ltL1 {k : Nat} (h : k < 2147483648) : ((1 : Int32) < nI k) = (1 < k) := nI_lt_iff (a := 1) (by decide) h
theorem ltR1 {k : Nat} (h : k < 2147483648) : (nI k < 1) = (k < 1) := nI_lt_iff (b := 1) h (by decide)
theorem leR1 {k : Nat} (h : k < 2147483648) : (nI k ≤ 1) = (k ≤ 1) := nI_le_iff (b := 1) h (by decide)
theorem eqL2 {k : Nat} (h : k < 2147483648) : (nI k = 2) = (k = 2) := nI_eq_iff (b := 2) h (by decide)
theorem leL2 {k : Nat} (h : k < 2147483648) : ((2 : Int32) ≤ nI k) = (2 ≤ k) := nI_le_iff (a := 2) (by decide) h
theorem ltL2 {k : Nat} (h : k < 2147483648) : ((2 : Int32) < nI k) = (2 < k) := nI_lt_iff (a := 2) (by decide) h
theorem ltR2 {k : Nat} (h : k < 2147483648) : (nI k < 2) = (k < 2) := nI_lt_iff (b := 2) h (by decide)
theorem leR2 {k : Nat} (h : k < 2147483648) : (nI k ≤ 2) = (k ≤ 2) := nI_le_iff (b := 2) h (by decide)
theorem eqL3 {k : Nat} (h : k < 2147483648) : (nI k = 3) = (k = 3) := nI_eq_iff (b := 3) h (by decide)
theorem leL3 {k : Nat} (h : k < 2147483648) : ((3 : Int32) ≤ nI k) = (3 ≤ k) := nI_le_iff (a := 3) (by decide) h
theorem ltL3 {k : Nat} (h : k < 2147483648) : ((3 : Int32) < nI k) = (3 < k) := nI_lt_iff (a := 3) (by decide) h
theorem ltR3 {k : Nat} (h : k < 2147483648) : (nI k < 3) = (k < 3) := nI_lt_iff (b := 3) h (by decide)
theorem leR3 {k : Nat} (h : k < 2147483648) : (nI k ≤ 3) = (k ≤ 3) := nI_le_iff (b := 3) h (by decide)
theorem eqL4 {k : Nat} (h : k < 2147483648) : (nI k = 4) = (k = 4) := nI_eq_iff (b := 4) h (by decide)
theorem leL4 {k : Nat} (h : k < 2147483648) : ((4 : Int32) ≤ nI k) = (4 ≤ k) := nI_le_iff (a := 4) (by decide) h
theorem ltL4 {k : Nat} (h : k < 2147483648) : ((4 : Int32) < nI k) = (4 < k) := nI_lt_iff (a := 4) (by decide) h
theorem ltR4 {k : Nat} (h : k < 2147483648) : (nI k < 4) = (k < 4) := nI_lt_iff (b := 4) h (by decide)
theorem leR4 {k : Nat} (h : k < 2147483648) : (nI k ≤ 4) = (k ≤ 4) := nI_le_iff (b := 4) h (by decide)
theorem eqL5 {k : Nat} (h : k < 2147483648) : (nI k = 5) = (k = 5) := nI_eq_iff (b := 5) h (by decide)
theorem leL5 {k : Nat} (h : k < 2147483648) : ((5 : Int32) ≤ nI k) = (5 ≤ k) := nI_le_iff (a := 5) (by decide) h
theorem ltL5 {k : Nat} (h : k < 2147483648) : ((5 : Int32) < nI k) = (5 < k) := nI_lt_iff (a := 5) (by decide) h
theorem ltR5 {k : Nat} (h : k < 2147483648) : (nI k < 5) = (k < 5) := nI_lt_iff (b := 5) h (by decide)
theorem leR5 {k : Nat} (h : k < 2147483648) : (nI k ≤ 5) = (k ≤ 5) := nI_le_iff (b := 5) h (by decide)
theorem eqL6 {k : Nat} (h : k < 2147483648) : (nI k = 6) = (k = 6) := nI_eq_iff (b := 6) h (by decide)
theorem leL6 {k : Nat} (h : k < 2147483648) : ((6 : Int32) ≤ nI k) = (6 ≤ k) := nI_le_iff (a := 6) (by decide) h
theorem ltL6 {k : Nat} (h : k < 2147483648) : ((6 : Int32) < nI k) = (6 < k) := nI_lt_iff (a := 6) (by decide) h
theorem ltR6 {k : Nat} (h : k < 2147483648) : (nI k < 6) = (k < 6) := nI_lt_iff (b := 6) h (by decide)
theorem leR6 {k : Nat} (h : k < 2147483648) : (nI k ≤ 6) = (k ≤ 6) := nI_le_iff (b := 6) h (by decide)
theorem eqL7 {k : Nat} (h : k < 2147483648) : (nI k = 7) = (k = 7) := nI_eq_iff (b := 7) h (by decide)
theorem leL7 {k : Nat} (h : k < 2147483648) : ((7 : Int32) ≤ nI k) = (7 ≤ k) := nI_le_iff (a := 7) (by decide) h
theorem ltL7 {k : Nat} (h : k < 2147483648) : ((7 : Int32) < nI k) = (7 < k) := nI_lt_iff (a := 7) (by decide) h
theorem ltR7 {k : Nat} (h : k < 2147483648) : (nI k < 7) = (k < 7) := nI_lt_iff (b := 7) h (by decide)
theorem leR7 {k : Nat} (h : k < 2147483648) : (nI k ≤ 7) = (k ≤ 7) := nI_le_iff (b := 7) h (by decide)
theorem eqL8 {k : Nat} (h : k < 2147483648) : (nI k = 8) = (k = 8) := nI_eq_iff (b := 8) h (by decide)
theorem leL8 {k : Nat} (h : k < 2147483648) : ((8 : Int32) ≤ nI k) = (8 ≤ k) := nI_le_iff (a := 8) (by decide) h
theorem ltL8 {k : Nat} (h : k < 2147483648) : ((8 : Int32) < nI k) = (8 < k) := nI_lt_iff (a := 8) (by decide) h
theorem ltR8 {k : Nat} (h : k < 2147483648) : (nI k < 8) = (k < 8) := nI_lt_iff (b := 8) h (by decide)
theorem leR8 {k : Nat} (h : k < 2147483648) : (nI k ≤ 8) = (k ≤ 8) := nI_le_iff (b := 8) h (by decide)
theorem eqL9 {k : Nat} (h : k < 2147483648) : (nI k = 9) = (k = 9) := nI_eq_iff (b := 9) h (by decide)
theorem leL9 {k : Nat} (h : k < 2147483648) : ((9 : Int32) ≤ nI k) = (9 ≤ k) := nI_le_iff (a := 9) (by decide) h
theorem ltL9 {k : Nat} (h : k < 2147483648) : ((9 : Int32) < nI k) = (9 < k) := nI_lt_iff (a := 9) (by decide) h
theorem ltR9 {k : Nat} (h : k < 2147483648) : (nI k < 9) = (k < 9) := nI_lt_iff (b := 9) h (by decide)
theorem leR9 {k : Nat} (h : k < 2147483648) : (nI k ≤ 9) = (k ≤ 9) := nI_le_iff (b := 9) h (by decide)
theorem eqL10 {k : Nat} (h : k < 2147483648) : (nI k = 10) = (k = 10) := nI_eq_iff (b := 10) h (by decide)
theorem leL10 {k : Nat} (h : k < 2147483648) : ((10 : Int32) ≤ nI k) = (10 ≤ k) := nI_le_iff (a := 10) (by decide) h
theorem ltL10 {k : Nat} (h : k < 2147483648) : ((10 : Int32) < nI k) = (10 < k) := nI_lt_iff (a := 10) (by decide) h
theorem ltR10 {k : Nat} (h : k < 2147483648) : (nI k < 10) = (k < 10) := nI_lt_iff (b := 10) h (by decide)
theorem leR10 {k : Nat} (h : k < 2147483648) : (nI k ≤ 10) = (k ≤ 10) := nI_le_iff (b := 10) h (by decide)
theorem eqL11 {k : Nat} (h : k < 2147483648) : (nI k = 11) = (k = 11) := nI_eq_iff (b := 11) h (by decide)
theorem leL11 {k : Nat} (h : k < 2147483648) : ((11 : Int32) ≤ nI k) = (11 ≤ k) := nI_le_iff (a := 11) (by decide) h
theorem ltL11 {k : Nat} (h : k < 2147483648) : ((11 : Int32) < nI k) = (11 < k) := nI_lt_iff (a := 11) (by decide) h
theorem ltR11 {k : Nat} (h : k < 2147483648) : (nI k < 11) = (k < 11) := nI_lt_iff (b := 11) h (by decide)
theorem leR11 {k : Nat} (h : k < 2147483648) : (nI k ≤ 11) = (k ≤ 11) := nI_le_iff (b := 11) h (by decide)
theorem eqL12 {k : Nat} (h : k < 2147483648) : (nI k = 12) = (k = 12) := nI_eq_iff (b := 12) h (by decide)
theorem leL12 {k : Nat} (h : k < 2147483648) : ((12 : Int32) ≤ nI k) = (12 ≤ k) := nI_le_iff (a := 12) (by decide) h
theorem ltL12 {k : Nat} (h : k < 2147483648) : ((12 : Int32) < nI k) = (12 < k) := nI_lt_iff (a := 12) (by decide) h
theorem ltR12 {k : Nat} (h : k < 2147483648) : (nI k < 12) = (k < 12) := nI_lt_iff (b := 12) h (by decide)
theorem leR12 {k : Nat} (h : k < 2147483648) : (nI k ≤ 12) = (k ≤ 12) := nI_le_iff (b := 12) h (by decide)
theorem eqL13 {k : Nat} (h : k < 2147483648) : (nI k = 13) = (k = 13) := nI_eq_iff (b := 13) h (by decide)
theorem leL13 {k : Nat} (h : k < 2147483648) : ((13 : Int32) ≤ nI k) = (13 ≤ k) := nI_le_iff (a := 13) (by decide) h
theorem ltL13 {k : Nat} (h : k < 2147483648) : ((13 : Int32) < nI k) = (13 < k) := nI_lt_iff (a := 13) (by decide) h
theorem ltR13 {k : Nat} (h : k < 2147483648) : (nI k < 13) = (k < 13) := nI_lt_iff (b := 13) h (by decide)
theorem leR13 {k : Nat} (h : k < 2147483648) : (nI k ≤ 13) = (k ≤ 13) := nI_le_iff (b := 13) h (by decide)
theorem eqL20 {k : Nat} (h : k < 2147483648) : (nI k = 20) = (k = 20) := nI_eq_iff (b := 20) h (by decide)
theorem leL20 {k : Nat} (h : k < 2147483648) : ((20 : Int32) ≤ nI k) = (20 ≤ k) := nI_le_iff (a := 20) (by decide) h
theorem ltL20 {k : Nat} (h : k < 2147483648) : ((20 : Int32) < nI k) = (20 < k) := nI_lt_iff (a := 20) (by decide) h
theorem ltR20 {k : Nat} (h : k < 2147483648) : (nI k < 20) = (k < 20) := nI_lt_iff (b := 20) h (by decide)
theorem leR20 {k : Nat} (h : k < 2147483648) : (nI k ≤ 20) = (k ≤ 20) := nI_le_iff (b := 20) h (by decide)
theorem eqL24 {k : Nat} (h : k < 2147483648) : (nI k = 24) = (k = 24) := nI_eq_iff (b := 24) h (by decide)
theorem leL24 {k : Nat} (h : k < 2147483648) : ((24 : Int32) ≤ nI k) = (24 ≤ k) := nI_le_iff (a := 24) (by decide) h
theorem ltL24 {k : Nat} (h : k < 2147483648) : ((24 : Int32) < nI k) = (24 < k) := nI_lt_iff (a := 24) (by decide) h
theorem ltR24 {k : Nat} (h : k < 2147483648) : (nI k < 24) = (k < 24) := nI_lt_iff (b := 24) h (by decide)
theorem leR24 {k : Nat} (h : k < 2147483648) : (nI k ≤ 24) = (k ≤ 24) := nI_le_iff (b := 24) h (by decide)
theorem eqL60 {k : Nat} (h : k < 2147483648) : (nI k = 60) = (k = 60) := nI_eq_iff (b := 60) h (by decide)
theorem leL60 {k : Nat} (h : k < 2147483648) : ((60 : Int32) ≤ nI k) = (60 ≤ k) := nI_le_iff (a := 60) (by decide) h
theorem ltL60 {k : Nat} (h : k < 2147483648) : ((60 : Int32) < nI k) = (60 < k) := nI_lt_iff (a := 60) (by decide) h
theorem ltR60 {k : Nat} (h : k < 2147483648) : (nI k < 60) = (k < 60) := nI_lt_iff (b := 60) h (by decide)
theorem leR60 {k : Nat} (h : k < 2147483648) : (nI k ≤ 60) = (k ≤ 60) := nI_le_iff (b := 60) h (by decide)
theorem eqL61 {k : Nat} (h : k < 2147483648) : (nI k = 61) = (k = 61) := nI_eq_iff (b := 61) h (by decide)
theorem leL61 {k : Nat} (h : k < 2147483648) : ((61 : Int32) ≤ nI k) = (61 ≤ k) := nI_le_iff (a := 61) (by decide) h
theorem ltL61 {k : Nat} (h : k < 2147483648) : ((61 : Int32) < nI k) = (61 < k) := nI_lt_iff (a := 61) (by decide) h
theorem ltR61 {k : Nat} (h : k < 2147483648) : (nI k < 61) = (k < 61) := nI_lt_iff (b := 61) h (by decide)
theorem leR61 {k : Nat} (h : k < 2147483648) : (nI k ≤ 61) = (k ≤ 61) := nI_le_iff (b := 61) h (by decide)
theorem eqL72 {k : Nat} (h : k < 2147483648) : (nI k = 72) = (k = 72) := nI_eq_iff (b := 72) h (by decide)
theorem leL72 {k : Nat} (h : k < 2147483648) : ((72 : Int32) ≤ nI k) = (72 ≤ k) := nI_le_iff (a := 72) (by decide) h
theorem ltL72 {k : Nat} (h : k < 2147483648) : ((72 : Int32) < nI k) = (72 < k) := nI_lt_iff (a := 72) (by decide) h
theorem ltR72 {k : Nat} (h : k < 2147483648) : (nI k < 72) = (k < 72) := nI_lt_iff (b := 72) h (by decide)
theorem leR72 {k : Nat} (h : k < 2147483648) : (nI k ≤ 72) = (k ≤ 72) := nI_le_iff (b := 72) h (by decide)
theorem eqL96 {k : Nat} (h : k < 2147483648) : (nI k = 96) = (k = 96) := nI_eq_iff (b := 96) h (by decide)
theorem leL96 {k : Nat} (h : k < 2147483648) : ((96 : Int32) ≤ nI k) = (96 ≤ k) := nI_le_iff (a := 96) (by decide) h
theorem ltL96 {k : Nat} (h : k < 2147483648) : ((96 : Int32) < nI k) = (96 < k) := nI_lt_iff (a := 96) (by decide) h
theorem ltR96 {k : Nat} (h : k < 2147483648) : (nI k < 96) = (k < 96) := nI_lt_iff (b := 96) h (by decide)
theorem leR96 {k : Nat} (h : k < 2147483648) : (nI k ≤ 96) = (k ≤ 96) := nI_le_iff (b := 96) h (by decide)
theorem eqL100 {k : Nat} (h : k < 2147483648) : (nI k = 100) = (k = 100) := nI_eq_iff (b := 100) h (by decide)
theorem leL100 {k : Nat} (h : k < 2147483648) : ((100 : Int32) ≤ nI k) = (100 ≤ k) := nI_le_iff (a := 100) (by decide) h
theorem ltL100 {k : Nat} (h : k < 2147483648) : ((100 : Int32) < nI k) = (100 < k) := nI_lt_iff (a := 100) (by decide) h
theorem ltR100 {k : Nat} (h : k < 2147483648) : (nI k < 100) = (k < 100) := nI_lt_iff (b := 100) h (by decide)
theorem leR100 {k : Nat} (h : k < 2147483648) : (nI k ≤ 100) = (k ≤ 100) := nI_le_iff (b := 100) h (by decide)
theorem eqL160 {k : Nat} (h : k < 2147483648) : (nI k = 160) = (k = 160) := nI_eq_iff (b := 160) h (by decide)
theorem leL160 {k : Nat} (h : k < 2147483648) : ((160 : Int32) ≤ nI k) = (160 ≤ k) := nI_le_iff (a := 160) (by decide) h
theorem ltL160 {k : Nat} (h : k < 2147483648) : ((160 : Int32) < nI k) = (160 < k) := nI_lt_iff (a := 160) (by decide) h
theorem ltR160 {k : Nat} (h : k < 2147483648) : (nI k < 160) = (k < 160) := nI_lt_iff (b := 160) h (by decide)
theorem leR160 {k : Nat} (h : k < 2147483648) : (nI k ≤ 160) = (k ≤ 160) := nI_le_iff (b := 160) h (by decide)
theorem two_mul_nI (k : Nat) : (2 : Int32) * nI k = nI (2 * k) := nI_mul 2 k
theorem tw_mul_nI (k : Nat) : (12 : Int32) * nI k = nI (12 * k) := nI_mul 12 k
theorem half_nI : ∀ k, k < 10 → nI k / 2 = nI (k / 2) := by decide +kernel
theorem nI_9 (k : Nat) : nI k + 9 = nI (k + 9) := nI_add k 9
theorem nI_z (k : Nat) : nI k + 0 = nI k := nI_add k 0
/-! pulling -/
def uni (C : Cl) (h d n : Nat) : Nat := cntN (fun o => decide (cKd C o = 3 ∧ cHb C o h = d)) n
def pullS (C : Cl) (g h : Nat) : Nat :=
  if cHb C g h = 0 then 0 else if cKd C g = 1 then cFm C g h + cAa C g else if cKd C g = 3 then cFm C g h + cAa C g + uni C h (cHb C g h) (cG C) else if cKd C g = 4 then 2 * cFm C g h else
  if cKd C g = 5 then cFm C g h / 2 else if cKd C g = 6 then 2 * cFm C g h + (if h = cAa C g then 9 else 0) else cFm C g h
theorem pull_le {C : Cl} (hI : CI C) {g h : Nat} (hg : g < cG C) (hh : h < 12) : pullS C g h ≤ 27 := by
  obtain ⟨⟨i1, i2⟩, -, i3⟩ := hI
  obtain ⟨⟨j1, j2, j3⟩, j4⟩ := i3 g hg
  obtain ⟨k1, k2, k3⟩ := j4 h hh
  have := cntN_le (fun o => decide (cKd C o = 3 ∧ cHb C o h = cHb C g h)) (cG C)
  unfold pullS uni
  split
  · omega
  · split
    · omega
    · split
      · omega
      · split
        · omega
        · split
          · omega
          · split
            · split <;> omega
            · omega
theorem X0_pullL {w : Wd} {b : Nat} {C : Cl} (hc : ClS w b) (hx : IsX w b C) (hI : CI C) {h d : Nat} (hh : h < 12) (hd : d < 100) (s0 : Nat) : fX0_pullOf_L86 b (nI h) (nI d) (nI s0, 0, w) = some (nI (s0 + uni C h d (cG C)), w) := by
  unfold fX0_pullOf_L86
  have hG : cG C ≤ 8 := hI.1.2
  obtain ⟨a1, a2, a3, a4, a5, a6, a7, a8, -⟩ := hc.B
  obtain ⟨n1, n2⟩ := inb12 hh
  refine it_for (fun i => (nI (s0 + uni C h d i), nI i, w)) (cG C) (by omega) (fun i hi => ?_) ?_
  · obtain ⟨b1, b2, b3, b4, b5, b6, b7, b8, b9, b10⟩ := hc.G (show i < 8 by omega)
    obtain ⟨⟨k1, k2, k3⟩, k4⟩ := hx.2.2 i hi
    obtain ⟨⟨q1, -, -⟩, q2⟩ := hI.2.2 i hi
    obtain ⟨r1, -, -⟩ := q2 h hh
    unfold fX0_pullOf_L86_body
    simp only [chk_t a1, hx.1.2.1, nI_le_iff (show cG C < 2147483648 by omega) (show i < 2147483648 by omega), if_neg (Nat.not_le.mpr hi), a3, ob_s, chk_t a7, a8, chk_t b1, b2, b3, chk_t b4, k1, eqL3 (show cKd C i < 2147483648 by omega), b5, chk_t b7, b8, chk_t n1, n2, (k4 h hh).1, nI_eq_iff (show cHb C i h < 2147483648 by omega) (show d < 2147483648 by omega), fX0_pullOf_b129, nI_1]
    show _ = some (Sum.inl (nI (s0 + uni C h d (i + 1)), nI (i + 1), w))
    by_cases e1 : cKd C i = 3
    · by_cases e2 : cHb C i h = d
      · rw [if_pos e1, if_pos e2, uni, uni, cntN_s, if_pos (by simp [e1, e2])]
        rfl
      · rw [if_pos e1, if_neg e2, uni, uni, cntN_s, if_neg (by simp [e2])]
        rfl
    · rw [if_neg e1, uni, uni, cntN_s, if_neg (by simp [e1])]
      rfl
  · unfold fX0_pullOf_L86_body
    simp only [chk_t a1, hx.1.2.1, if_pos (Int32.le_refl _), wr_s]
theorem X0_pullOf {w : Wd} {b : Nat} {C : Cl} (hc : ClS w b) (hx : IsX w b C) (hI : CI C) {g h : Nat} (hg : g < cG C) (hh : h < 12) : fX0_pullOf b (nI g) (nI h) w = some (nI (pullS C g h), w) := by
  have hG : cG C ≤ 8 := hI.1.2
  obtain ⟨a1, a2, a3, a4, a5, a6, a7, a8, -⟩ := hc.B
  obtain ⟨n1, n2⟩ := inb12 hh
  obtain ⟨b1, b2, b3, b4, b5, b6, b7, b8, b9, b10⟩ := hc.G (show g < 8 by omega)
  obtain ⟨⟨k1, k2, k3⟩, k4⟩ := hx.2.2 g hg
  obtain ⟨⟨q1, q3, -⟩, q2⟩ := hI.2.2 g hg
  obtain ⟨r1, r2, -⟩ := q2 h hh
  unfold fX0_pullOf
  simp only [chk_t a1, a3, ob_s, chk_t a7, a8, chk_t b1, b2, b3, chk_t b4, b5, b6, chk_t b7, b8, chk_t b9, b10, chk_t n1, n2, bnd_e, (k4 h hh).1, (k4 h hh).2, k1, k2, nI_add, two_mul_nI, X0_pullL hc hx hI hh (show cHb C g h < 100 by omega),
    eqL0 (show cHb C g h < 2147483648 by omega), eqL1 (show cKd C g < 2147483648 by omega), eqL2 (show cKd C g < 2147483648 by omega), eqL3 (show cKd C g < 2147483648 by omega), eqL4 (show cKd C g < 2147483648 by omega), eqL5 (show cKd C g < 2147483648 by omega), eqL6 (show cKd C g < 2147483648 by omega), nI_eq_iff (show h < 2147483648 by omega) (show cAa C g < 2147483648 by omega), fX0_pullOf_b168, fX0_pullOf_b166, half_nI _ (show cFm C g h < 10 by omega), nI_9, nI_z]
  unfold pullS
  by_cases e0 : cHb C g h = 0
  · rw [if_pos e0, if_pos e0]; rfl
  · rw [if_neg e0, if_neg e0]
    rcases (show cKd C g = 0 ∨ cKd C g = 1 ∨ cKd C g = 2 ∨ cKd C g = 3 ∨ cKd C g = 4 ∨ cKd C g = 5 ∨ cKd C g = 6 by omega) with e | e | e | e | e | e | e <;> rw [e]
    · rfl
    · rfl
    · rfl
    · rfl
    · rfl
    · rfl
    · by_cases e7 : h = cAa C g
      · simp [e7]
      · simp [e7]
