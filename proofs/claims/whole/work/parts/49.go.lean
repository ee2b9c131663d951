/-! who goes -/
def goS (C : Cl) (g h : Nat) : Bool := decide ((cKd C g = 1 ∨ cKd C g = 3 ∨ cKd C g = 6) ∧ 10 ≤ pullS C g h)
/-- a garment of nobody that goes -/
def gnS (C : Cl) (g h : Nat) : Bool := decide (cWr C g = 0) && goS C g h
theorem c01_0 (w : Wd) : chk ((0 : Int32) = 0 ∨ (0 : Int32) = 1) (some ((0 : Int32), w)) = some (0, w) := chk_t (Or.inl rfl) _
theorem c01_1 (w : Wd) : chk ((1 : Int32) = 0 ∨ (1 : Int32) = 1) (some ((1 : Int32), w)) = some (1, w) := chk_t (Or.inr rfl) _
theorem n10 : ¬ (1 : Int32) = 0 := by decide
theorem goS_t {C : Cl} {g h : Nat} (hk : cKd C g = 1 ∨ cKd C g = 3 ∨ cKd C g = 6) : goS C g h = !decide (pullS C g h < 10) := by
  unfold goS
  by_cases e : pullS C g h < 10
  · rw [decide_eq_false (fun q => by omega), decide_eq_true e]
    rfl
  · rw [decide_eq_true ⟨hk, by omega⟩, decide_eq_false e]
    rfl
theorem goS_f {C : Cl} {g h : Nat} (hk : ¬ (cKd C g = 1 ∨ cKd C g = 3 ∨ cKd C g = 6)) : goS C g h = false := decide_eq_false (fun q => hk q.1)
theorem gnS_t {C : Cl} {g h : Nat} (e : cWr C g = 0) : gnS C g h = goS C g h := by
  unfold gnS
  rw [decide_eq_true e]
  rfl
theorem gnS_f {C : Cl} {g h : Nat} (e : ¬ cWr C g = 0) : gnS C g h = false := by
  unfold gnS
  rw [decide_eq_false e]
  rfl
theorem X2_canGo {w : Wd} {a k : Nat} (ho : isO w a 2) (hk : wI w a 2 = nI k) (h7 : k < 7) : fX2_canGo a w = some (if k = 1 ∨ k = 3 ∨ k = 6 then 1 else 0, w) := by
  unfold fX2_canGo
  rw [chk_t ho, hk]
  rcases (show k = 0 ∨ k = 1 ∨ k = 2 ∨ k = 3 ∨ k = 4 ∨ k = 5 ∨ k = 6 by omega) with e | e | e | e | e | e | e <;> subst e <;> rfl
theorem X0_wouldGo {w : Wd} {b : Nat} {C : Cl} (hc : ClS w b) (hx : IsX w b C) (hI : CI C) {g h : Nat} (hg : g < cG C) (hh : h < 12) : fX0_wouldGo b (nI g) (nI h) w = some (if goS C g h then 1 else 0, w) := by
  have hG : cG C ≤ 8 := hI.1.2
  obtain ⟨a1, a2, a3, a4, a5, a6, a7, a8, -⟩ := hc.B
  obtain ⟨b1, b2, b3, b4, b5, b6, b7, b8, b9, b10⟩ := hc.G (show g < 8 by omega)
  obtain ⟨⟨k1, k2, k3⟩, k4⟩ := hx.2.2 g hg
  obtain ⟨⟨q1, q3, q4⟩, q2⟩ := hI.2.2 g hg
  have hpl := pull_le hI hg hh
  unfold fX0_wouldGo
  simp only [chk_t a1, a3, ob_s, chk_t a7, a8, chk_t b1, b2, b3, chk_t b4, X2_canGo b4 k1 (show cKd C g < 7 by omega)]
  by_cases e : cKd C g = 1 ∨ cKd C g = 3 ∨ cKd C g = 6
  · simp only [if_pos e, if_neg n10, X0_pullOf hc hx hI hg hh, ob_s, ltR10 (show pullS C g h < 2147483648 by omega), fX0_wouldGo_b27, fX0_wouldGo_b28, c01_0, c01_1, goS_t e]
    by_cases f : pullS C g h < 10
    · rw [if_pos f, decide_eq_true f]; rfl
    · rw [if_neg f, decide_eq_false f]; rfl
  · simp only [if_neg e, if_pos, fX0_wouldGo_b27, fX0_wouldGo_b28, c01_0, goS_f e]
    rfl
theorem X0_isGoing {w : Wd} {b : Nat} {C : Cl} (hc : ClS w b) (hx : IsX w b C) (hI : CI C) {g h : Nat} (hg : g < cG C) (hh : h < 12) : fX0_isGoing b (nI g) (nI h) w = some (if gnS C g h then 1 else 0, w) := by
  have hG : cG C ≤ 8 := hI.1.2
  have hP : cP C ≤ 6 := hI.1.1
  obtain ⟨a1, a2, a3, a4, a5, a6, a7, a8, -⟩ := hc.B
  obtain ⟨b1, b2, b3, b4, b5, b6, b7, b8, b9, b10⟩ := hc.G (show g < 8 by omega)
  obtain ⟨⟨k1, k2, k3⟩, k4⟩ := hx.2.2 g hg
  obtain ⟨⟨q1, q3, q4⟩, q2⟩ := hI.2.2 g hg
  unfold fX0_isGoing
  simp only [chk_t a1, a3, ob_s, chk_t a7, a8, chk_t b1, b2, b3, chk_t b4, k3, wv_m1 (show cWr C g < 2147483648 by omega), X0_wouldGo hc hx hI hg hh, fX0_isGoing_b26, fX0_isGoing_b27, c01_0, c01_1]
  by_cases e : cWr C g = 0
  · rw [if_pos e, gnS_t e]
    cases goS C g h <;> rfl
  · rw [if_neg e, gnS_f e]
    rfl
def hrS (C : Cl) (g : Nat) : Nat := cntN (fun h => goS C g h) 12
theorem X0_hoursToGo {w : Wd} {b : Nat} {C : Cl} (hc : ClS w b) (hx : IsX w b C) (hI : CI C) {g : Nat} (hg : g < cG C) : fX0_hoursToGo b (nI g) w = some (nI (hrS C g), w) := by
  obtain ⟨a1, -⟩ := hc.B
  unfold fX0_hoursToGo fX0_hoursToGo_L4
  refine it_for (fun i => (nI (cntN (fun h => goS C g h) i), nI i, w)) 12 (by decide) (fun i hi => ?_) ?_
  · unfold fX0_hoursToGo_L4_body
    simp only [leL12 (show i < 2147483648 by omega), if_neg (Nat.not_le.mpr hi), chk_t a1, X0_wouldGo hc hx hI hg hi, ob_s, fX0_hoursToGo_b22, nI_1, cntN_s]
    cases goS C g i <;> simp [n10]
  · rfl
/-! the same of the model -/
theorem X8_isUnder1 (w : Wd) : ∀ k, k < 7 → fX8_isUnder (nI k) 1 w = some (if k = 1 ∨ k = 3 then 1 else 0, w)
  | 0, _ => rfl
  | 1, _ => rfl
  | 2, _ => rfl
  | 3, _ => rfl
  | 4, _ => rfl
  | 5, _ => rfl
  | 6, _ => rfl
  | k + 7, h => absurd h (by omega)
theorem X8_couldGo {w : Wd} {C : Cl} (hc : ShM w) (hx : IsM w C) (hI : CI C) {g h : Nat} (hg : g < cG C) (hh : h < 12) : fX8_couldGo 0 (nI g) (nI h) w = some (if goS C g h then 1 else 0, w) := by
  have hG : cG C ≤ 8 := hI.1.2
  have a0 := hc.O
  obtain ⟨c1, c2, c3⟩ := hc.a6
  obtain ⟨b1, b2⟩ := inb8 (show g < 8 by omega)
  obtain ⟨⟨k1, k2, k3⟩, k4⟩ := hx.2.2 g hg
  obtain ⟨⟨q1, q3, q4⟩, q2⟩ := hI.2.2 g hg
  have hpl := pull_le hI hg hh
  unfold fX8_couldGo
  simp only [chk_t a0, c1, ob_s, chk_t c2, c3, chk_t b1, b2, k1, X8_isUnder1 w (cKd C g) (by omega), eqL6 (show cKd C g < 2147483648 by omega), fX8_couldGo_b24, fX8_couldGo_b39, fX8_couldGo_b40, X8_pull hc hx hI hg hh, c01_0, c01_1, ltR10 (show pullS C g h < 2147483648 by omega)]
  by_cases e : cKd C g = 1 ∨ cKd C g = 3
  · simp only [if_pos e, if_neg n10, goS_t (show cKd C g = 1 ∨ cKd C g = 3 ∨ cKd C g = 6 by omega)]
    by_cases f : pullS C g h < 10
    · rw [if_pos f, decide_eq_true f]; rfl
    · rw [if_neg f, decide_eq_false f]; rfl
  · simp only [if_neg e, if_true]
    by_cases e6 : cKd C g = 6
    · rw [if_pos e6, goS_t (show cKd C g = 1 ∨ cKd C g = 3 ∨ cKd C g = 6 by omega)]
      by_cases f : pullS C g h < 10
      · rw [if_pos f, decide_eq_true f]; rfl
      · rw [if_neg f, decide_eq_false f]; rfl
    · rw [if_neg e6, goS_f (by omega)]
      rfl
theorem X8_goesNow {w : Wd} {C : Cl} (hc : ShM w) (hx : IsM w C) (hI : CI C) {g h : Nat} (hg : g < cG C) (hh : h < 12) : fX8_goesNow 0 (nI g) (nI h) w = some (if gnS C g h then 1 else 0, w) := by
  have hG : cG C ≤ 8 := hI.1.2
  have hP : cP C ≤ 6 := hI.1.1
  have a0 := hc.O
  obtain ⟨c1, c2, c3⟩ := hc.a8
  obtain ⟨b1, b2⟩ := inb8 (show g < 8 by omega)
  obtain ⟨⟨k1, k2, k3⟩, k4⟩ := hx.2.2 g hg
  obtain ⟨⟨q1, q3, q4⟩, q2⟩ := hI.2.2 g hg
  unfold fX8_goesNow
  simp only [chk_t a0, c1, ob_s, chk_t c2, c3, chk_t b1, b2, k3, wv_m1 (show cWr C g < 2147483648 by omega), X8_couldGo hc hx hI hg hh, fX8_goesNow_b23, fX8_goesNow_b24, c01_0, c01_1]
  by_cases e : cWr C g = 0
  · rw [if_pos e, gnS_t e]
    cases goS C g h <;> rfl
  · rw [if_neg e, gnS_f e]
    rfl
