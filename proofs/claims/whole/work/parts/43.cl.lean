/-! a closet as numbers: people, garments, seed, days; will; kind, a, wearer (and 1); own; habit, firm -/
abbrev Cl : Type := Nat × Nat × Int32 × Int32 × (Nat → Nat) × (Nat → Nat) × (Nat → Nat) × (Nat → Nat) × (Nat → Nat → Nat) × (Nat → Nat → Nat) × (Nat → Nat → Nat)
def cP (C : Cl) : Nat := C.1
def cG (C : Cl) : Nat := C.2.1
def cSd (C : Cl) : Int32 := C.2.2.1
def cDy (C : Cl) : Int32 := C.2.2.2.1
def cWl (C : Cl) : Nat → Nat := C.2.2.2.2.1
def cKd (C : Cl) : Nat → Nat := C.2.2.2.2.2.1
def cAa (C : Cl) : Nat → Nat := C.2.2.2.2.2.2.1
def cWr (C : Cl) : Nat → Nat := C.2.2.2.2.2.2.2.1
def cOw (C : Cl) : Nat → Nat → Nat := C.2.2.2.2.2.2.2.2.1
def cHb (C : Cl) : Nat → Nat → Nat := C.2.2.2.2.2.2.2.2.2.1
def cFm (C : Cl) : Nat → Nat → Nat := C.2.2.2.2.2.2.2.2.2.2
/-- a wearer as the machine holds it: -1 is nobody -/
def wv (n : Nat) : Int32 := nI n - 1
theorem wv_0 : wv 0 = -1 := by decide
theorem wv_s (n : Nat) : wv (n + 1) = nI n := nI_pred n
def gA (b g : Nat) : Nat := b + 16 + 3 * g
def pA (b p : Nat) : Nat := b + 4 + 2 * p
/-- x's closet at b is C -/
def IsX (w : Wd) (b : Nat) (C : Cl) : Prop :=
  (wI w b 3 = nI (cP C) ∧ wI w b 4 = nI (cG C) ∧ wI w b 5 = cSd C ∧ wI w b 6 = cDy C) ∧
  (∀ p, p < cP C → wI w (pA b p) 1 = nI (cWl C p) ∧ ∀ h, h < 12 → wI w (pA b p + 1) h = nI (cOw C p h)) ∧
  ∀ g, g < cG C → (wI w (gA b g) 2 = nI (cKd C g) ∧ wI w (gA b g) 3 = nI (cAa C g) ∧ wI w (gA b g) 4 = wv (cWr C g)) ∧ ∀ h, h < 12 → wI w (gA b g + 1) h = nI (cHb C g h) ∧ wI w (gA b g + 2) h = nI (cFm C g h)
/-- the model's closet is C -/
def IsM (w : Wd) (C : Cl) : Prop :=
  (wI w 0 3 = nI (cP C) ∧ wI w 0 6 = nI (cG C) ∧ wI w 0 13 = cSd C ∧ wI w 0 12 = cDy C) ∧
  (∀ p, p < cP C → wI w 4 p = nI (cWl C p) ∧ ∀ h, h < 12 → wI w 5 (12 * p + h) = nI (cOw C p h)) ∧
  ∀ g, g < cG C → (wI w 6 g = nI (cKd C g) ∧ wI w 7 g = nI (cAa C g) ∧ wI w 8 g = wv (cWr C g)) ∧ ∀ h, h < 12 → wI w 9 (12 * g + h) = nI (cHb C g h) ∧ wI w 10 (12 * g + h) = nI (cFm C g h)
/-- what always holds of a closet -/
def CI (C : Cl) : Prop := (cP C ≤ 6 ∧ cG C ≤ 8) ∧ (∀ p, p < cP C → cWl C p ≤ 9 ∧ ∀ h, h < 12 → cOw C p h ≤ 9) ∧
  ∀ g, g < cG C → (cKd C g ≤ 6 ∧ cAa C g ≤ 9 ∧ cWr C g ≤ cP C) ∧ ∀ h, h < 12 → cHb C g h ≤ 9 ∧ cFm C g h ≤ 9 ∧ (cHb C g h = 0 ↔ cFm C g h = 0)
/-! where things lie -/
theorem ClS.B {w : Wd} {b : Nat} (hc : ClS w b) : isO w b 0 ∧ wR w b 0 = some (b + 1) ∧ wR w b 1 = some (b + 2) ∧ wR w b 2 = some (b + 3) ∧ isA w (b + 1) 3 ∧ wn w (b + 1) = 6 ∧ isA w (b + 2) 2 ∧ wn w (b + 2) = 8 ∧ isA w (b + 3) 0 ∧ wn w (b + 3) = 6 := by
  obtain ⟨⟨h1, h2, h3, h4, h5, h6, h7, h8, h9, h10, h11⟩, -, -⟩ := hc
  exact ⟨⟨by omega, h2⟩, h3, h4, h5, ⟨by omega, h6⟩, h7, ⟨by omega, h8⟩, h9, ⟨by omega, h10⟩, h11⟩
theorem ClS.G {w : Wd} {b g : Nat} (hc : ClS w b) (hg : g < 8) : inb (nI g) 8 ∧ (nI g).toNatClampNeg = g ∧ wR w (b + 2) g = some (gA b g) ∧ isO w (gA b g) 2 ∧ wR w (gA b g) 0 = some (gA b g + 1) ∧ wR w (gA b g) 1 = some (gA b g + 2) ∧ isA w (gA b g + 1) 0 ∧ wn w (gA b g + 1) = 12 ∧ isA w (gA b g + 2) 0 ∧ wn w (gA b g + 2) = 12 := by
  obtain ⟨h0, h1, h2, h3, h4, h5, h6, h7, h8⟩ := hc.2.2 g hg
  exact ⟨inb_nI hg (by decide), nI_clamp (by omega), h0, ⟨by unfold gA; omega, h2⟩, h3, h4, ⟨by unfold gA; omega, h5⟩, h6, ⟨by unfold gA; omega, h7⟩, h8⟩
theorem ClS.P {w : Wd} {b p : Nat} (hc : ClS w b) (hp : p < 6) : inb (nI p) 6 ∧ (nI p).toNatClampNeg = p ∧ wR w (b + 1) p = some (pA b p) ∧ isO w (pA b p) 4 ∧ wR w (pA b p) 0 = some (pA b p + 1) ∧ isA w (pA b p + 1) 0 ∧ wn w (pA b p + 1) = 12 := by
  obtain ⟨h0, h1, h2, h3, h4, h5⟩ := hc.2.1 p hp
  exact ⟨inb_nI hp (by decide), nI_clamp (by omega), h0, ⟨by unfold pA; omega, h2⟩, h3, ⟨by unfold pA; omega, h4⟩, h5⟩
theorem inb12 {h : Nat} (hh : h < 12) : inb (nI h) 12 ∧ (nI h).toNatClampNeg = h := ⟨inb_nI hh (by decide), nI_clamp (by omega)⟩
theorem ShM.K {w : Wd} (h : ShM w) {a k n : Nat} (ha : a < 19) (he : hdM a = (k, n)) : wK w a = k ∧ wn w a = n := by
  unfold wK wn
  rw [h.2.1 a ha, he]
  exact ⟨rfl, rfl⟩
theorem ShM.R {w : Wd} (h : ShM w) {i : Nat} {r : Option Nat} (hi : i < 27) (he : rfM i = r) : wR w 0 i = r := by rw [h.2.2 i hi, he]
theorem ShM.O {w : Wd} (h : ShM w) : isO w 0 8 := ⟨by rw [h.1]; decide, (h.K (n := 0) (by decide) rfl).1⟩
theorem ShM.a1 {w : Wd} (h : ShM w) : wR w 0 0 = some 1 ∧ isA w 1 0 ∧ wn w 1 = 8 := ⟨h.R (by decide) rfl, ⟨by rw [h.1]; decide, (h.K (n := 8) (by decide) rfl).1⟩, (h.K (k := 0) (by decide) rfl).2⟩
theorem ShM.a2 {w : Wd} (h : ShM w) : wR w 0 1 = some 2 ∧ isA w 2 0 ∧ wn w 2 = 8 := ⟨h.R (by decide) rfl, ⟨by rw [h.1]; decide, (h.K (n := 8) (by decide) rfl).1⟩, (h.K (k := 0) (by decide) rfl).2⟩
theorem ShM.a3 {w : Wd} (h : ShM w) : wR w 0 2 = some 3 ∧ isA w 3 1 ∧ wn w 3 = 1280 := ⟨h.R (by decide) rfl, ⟨by rw [h.1]; decide, (h.K (n := 1280) (by decide) rfl).1⟩, (h.K (k := 1) (by decide) rfl).2⟩
theorem ShM.a4 {w : Wd} (h : ShM w) : wR w 0 4 = some 4 ∧ isA w 4 0 ∧ wn w 4 = 6 := ⟨h.R (by decide) rfl, ⟨by rw [h.1]; decide, (h.K (n := 6) (by decide) rfl).1⟩, (h.K (k := 0) (by decide) rfl).2⟩
theorem ShM.a5 {w : Wd} (h : ShM w) : wR w 0 5 = some 5 ∧ isA w 5 0 ∧ wn w 5 = 72 := ⟨h.R (by decide) rfl, ⟨by rw [h.1]; decide, (h.K (n := 72) (by decide) rfl).1⟩, (h.K (k := 0) (by decide) rfl).2⟩
theorem ShM.a6 {w : Wd} (h : ShM w) : wR w 0 7 = some 6 ∧ isA w 6 0 ∧ wn w 6 = 8 := ⟨h.R (by decide) rfl, ⟨by rw [h.1]; decide, (h.K (n := 8) (by decide) rfl).1⟩, (h.K (k := 0) (by decide) rfl).2⟩
theorem ShM.a7 {w : Wd} (h : ShM w) : wR w 0 8 = some 7 ∧ isA w 7 0 ∧ wn w 7 = 8 := ⟨h.R (by decide) rfl, ⟨by rw [h.1]; decide, (h.K (n := 8) (by decide) rfl).1⟩, (h.K (k := 0) (by decide) rfl).2⟩
theorem ShM.a8 {w : Wd} (h : ShM w) : wR w 0 9 = some 8 ∧ isA w 8 0 ∧ wn w 8 = 8 := ⟨h.R (by decide) rfl, ⟨by rw [h.1]; decide, (h.K (n := 8) (by decide) rfl).1⟩, (h.K (k := 0) (by decide) rfl).2⟩
theorem ShM.a9 {w : Wd} (h : ShM w) : wR w 0 10 = some 9 ∧ isA w 9 0 ∧ wn w 9 = 96 := ⟨h.R (by decide) rfl, ⟨by rw [h.1]; decide, (h.K (n := 96) (by decide) rfl).1⟩, (h.K (k := 0) (by decide) rfl).2⟩
theorem ShM.a10 {w : Wd} (h : ShM w) : wR w 0 11 = some 10 ∧ isA w 10 0 ∧ wn w 10 = 96 := ⟨h.R (by decide) rfl, ⟨by rw [h.1]; decide, (h.K (n := 96) (by decide) rfl).1⟩, (h.K (k := 0) (by decide) rfl).2⟩
theorem ShM.a11 {w : Wd} (h : ShM w) : wR w 0 15 = some 11 ∧ isA w 11 0 ∧ wn w 11 = 8 := ⟨h.R (by decide) rfl, ⟨by rw [h.1]; decide, (h.K (n := 8) (by decide) rfl).1⟩, (h.K (k := 0) (by decide) rfl).2⟩
theorem ShM.a12 {w : Wd} (h : ShM w) : wR w 0 17 = some 12 ∧ isA w 12 0 ∧ wn w 12 = 20 := ⟨h.R (by decide) rfl, ⟨by rw [h.1]; decide, (h.K (n := 20) (by decide) rfl).1⟩, (h.K (k := 0) (by decide) rfl).2⟩
theorem ShM.a13 {w : Wd} (h : ShM w) : wR w 0 19 = some 13 ∧ isA w 13 0 ∧ wn w 13 = 298 := ⟨h.R (by decide) rfl, ⟨by rw [h.1]; decide, (h.K (n := 298) (by decide) rfl).1⟩, (h.K (k := 0) (by decide) rfl).2⟩
theorem ShM.a14 {w : Wd} (h : ShM w) : wR w 0 20 = some 14 ∧ isA w 14 0 ∧ wn w 14 = 298 := ⟨h.R (by decide) rfl, ⟨by rw [h.1]; decide, (h.K (n := 298) (by decide) rfl).1⟩, (h.K (k := 0) (by decide) rfl).2⟩
theorem ShM.a15 {w : Wd} (h : ShM w) : wR w 0 21 = some 15 ∧ isA w 15 0 ∧ wn w 15 = 298 := ⟨h.R (by decide) rfl, ⟨by rw [h.1]; decide, (h.K (n := 298) (by decide) rfl).1⟩, (h.K (k := 0) (by decide) rfl).2⟩
theorem ShM.a16 {w : Wd} (h : ShM w) : wR w 0 22 = some 16 ∧ isA w 16 0 ∧ wn w 16 = 6 := ⟨h.R (by decide) rfl, ⟨by rw [h.1]; decide, (h.K (n := 6) (by decide) rfl).1⟩, (h.K (k := 0) (by decide) rfl).2⟩
theorem ShM.a17 {w : Wd} (h : ShM w) : wR w 0 23 = some 17 ∧ isA w 17 0 ∧ wn w 17 = 4 := ⟨h.R (by decide) rfl, ⟨by rw [h.1]; decide, (h.K (n := 4) (by decide) rfl).1⟩, (h.K (k := 0) (by decide) rfl).2⟩
theorem ShM.a18 {w : Wd} (h : ShM w) : wR w 0 26 = some 18 ∧ isA w 18 0 ∧ wn w 18 = 4 := ⟨h.R (by decide) rfl, ⟨by rw [h.1]; decide, (h.K (n := 4) (by decide) rfl).1⟩, (h.K (k := 0) (by decide) rfl).2⟩
/-! small methods -/
theorem X7_isWithin (v a b : Int32) (w : Wd) : fX7_isWithin v a b w = some (if a ≤ v ∧ v ≤ b then 1 else 0, w) := by
  unfold fX7_isWithin
  by_cases h1 : v < a
  · rw [if_pos h1, if_neg (fun q => absurd h1 (Int32.not_lt.mpr q.1))]
    rfl
  · rw [if_neg h1]
    by_cases h2 : b < v
    · rw [if_pos h2, if_neg (fun q => absurd h2 (Int32.not_lt.mpr q.2))]
      rfl
    · rw [if_neg h2, if_pos ⟨Int32.not_lt.mp h1, Int32.not_lt.mp h2⟩]
      rfl
