/-! guards -/
abbrev isN (x : Int32) (n : Nat) : Prop := ¬ x < 0 ∧ x.toNatClampNeg < n
def bI (P : Prop) [Decidable P] : Int32 := if P then 1 else 0
theorem bI_t {P : Prop} [Decidable P] (h : P) : bI P = 1 := if_pos h
theorem bI_f {P : Prop} [Decidable P] (h : ¬ P) : bI P = 0 := if_neg h
theorem bI_01 (P : Prop) [Decidable P] : bI P = 0 ∨ bI P = 1 := by
  by_cases h : P
  · exact Or.inr (bI_t h)
  · exact Or.inl (bI_f h)
theorem isN_nI {g n : Nat} (h : g < n) (hn : n < 2147483648) : isN (nI g) n := ⟨nI_pos (by omega), by rw [nI_clamp (by omega)]; exact h⟩
theorem isN_eq {x : Int32} {n : Nat} (h : isN x n) : x = nI x.toNatClampNeg := by
  obtain ⟨j, hj, rfl⟩ := nI_of h.1
  rw [nI_clamp hj]
/-- an argument that may be: it is one of the first numbers -/
theorem isN_ex {x : Int32} {n : Nat} (h : isN x n) : ∃ g, g < n ∧ x = nI g := ⟨_, h.2, isN_eq h⟩
theorem le0 (x : Int32) : 0 ≤ x ↔ ¬ x < 0 := ⟨fun h => Int32.not_lt.mpr h, fun h => Int32.not_lt.mp h⟩
theorem rngN {x : Int32} {n : Nat} (hn : n < 2147483648) : (0 ≤ x ∧ x ≤ nI n - 1) ↔ isN x n := by
  constructor
  · rintro ⟨h1, h2⟩
    obtain ⟨j, hj, rfl⟩ := nI_of ((le0 x).mp h1)
    cases n with
    | zero =>
      have e : nI 0 - 1 = -1 := by decide
      rw [e] at h2
      have := Int32.le_iff_toInt_le.mp h2
      rw [nI_toInt hj] at this
      have e2 : (-1 : Int32).toInt = -1 := by decide
      omega
    | succ n =>
      rw [nI_pred] at h2
      have h3 := (nI_leI hj (by omega)).mp h2
      exact isN_nI (by omega) hn
  · intro h
    obtain ⟨g, hg, rfl⟩ := isN_ex h
    cases n with
    | zero => omega
    | succ n =>
      rw [nI_pred]
      exact ⟨(le0 _).mpr h.1, nI_le (by omega) (by omega)⟩
theorem iteN {x : Int32} {n : Nat} (hn : n < 2147483648) : (if 0 ≤ x ∧ x ≤ nI n - 1 then (1 : Int32) else 0) = bI (isN x n) := by
  by_cases h : isN x n
  · rw [if_pos ((rngN hn).mpr h), bI_t h]
  · rw [if_neg (fun q => h ((rngN hn).mp q)), bI_f h]
theorem X8_within (v a b : Int32) (w : Wd) : fX8_within v a b w = some (if a ≤ v ∧ v ≤ b then 1 else 0, w) := by
  unfold fX8_within
  by_cases h1 : v < a
  · rw [if_pos h1, if_neg (fun q => absurd h1 (Int32.not_lt.mpr q.1))]
    rfl
  · rw [if_neg h1]
    by_cases h2 : b < v
    · rw [if_pos h2, if_neg (fun q => absurd h2 (Int32.not_lt.mpr q.2))]
      rfl
    · rw [if_neg h2, if_pos ⟨Int32.not_lt.mp h1, Int32.not_lt.mp h2⟩]
      rfl
theorem X7_isShelf (x : Int32) (w : Wd) : fX7_isShelf x w = some (bI (isN x 8), w) := by
  have e := iteN (x := x) (n := 8) (by decide)
  rw [show nI 8 - 1 = 7 from by decide] at e
  unfold fX7_isShelf
  rw [X7_isWithin, ob_s, e, chk_t (bI_01 _)]
theorem X7_isKind (x : Int32) (w : Wd) : fX7_isKind x w = some (bI (isN x 7), w) := by
  have e := iteN (x := x) (n := 7) (by decide)
  rw [show nI 7 - 1 = 6 from by decide] at e
  unfold fX7_isKind
  rw [X7_isWithin, ob_s, e, chk_t (bI_01 _)]
theorem X7_isHour (x : Int32) (w : Wd) : fX7_isHour x w = some (bI (isN x 12), w) := by
  have e := iteN (x := x) (n := 12) (by decide)
  rw [show nI 12 - 1 = 11 from by decide] at e
  unfold fX7_isHour
  rw [X7_isWithin, ob_s, e, chk_t (bI_01 _)]
theorem X7_isDigit (x : Int32) (w : Wd) : fX7_isDigit x w = some (bI (isN x 10), w) := by
  have e := iteN (x := x) (n := 10) (by decide)
  rw [show nI 10 - 1 = 9 from by decide] at e
  unfold fX7_isDigit
  rw [X7_isWithin, ob_s, e, chk_t (bI_01 _)]
theorem X8_isHour (x : Int32) (w : Wd) : fX8_isHour x w = some (bI (isN x 12), w) := by
  have e := iteN (x := x) (n := 12) (by decide)
  rw [show nI 12 - 1 = 11 from by decide] at e
  unfold fX8_isHour
  rw [X8_within, ob_s, e, chk_t (bI_01 _)]
theorem X8_isDigit (x : Int32) (w : Wd) : fX8_isDigit x w = some (bI (isN x 10), w) := by
  have e := iteN (x := x) (n := 10) (by decide)
  rw [show nI 10 - 1 = 9 from by decide] at e
  unfold fX8_isDigit
  rw [X8_within, ob_s, e, chk_t (bI_01 _)]
theorem X8_isDays (x : Int32) (w : Wd) : fX8_isDays x w = some (bI (isN x 61), w) := by
  have e := iteN (x := x) (n := 61) (by decide)
  rw [show nI 61 - 1 = 60 from by decide] at e
  unfold fX8_isDays
  rw [X8_within, ob_s, e, chk_t (bI_01 _)]
theorem X0_hasPerson {w : Wd} {b : Nat} {n : Nat} (hc : ClS w b) (hn : wI w b 3 = nI n) (h8 : n ≤ 8) (x : Int32) : fX0_hasPerson b x w = some (bI (isN x n), w) := by
  unfold fX0_hasPerson
  rw [chk_t hc.B.1, X7_isWithin, hn, ob_s, iteN (by omega), chk_t (bI_01 _)]
theorem X0_hasGarment {w : Wd} {b : Nat} {n : Nat} (hc : ClS w b) (hn : wI w b 4 = nI n) (h8 : n ≤ 8) (x : Int32) : fX0_hasGarment b x w = some (bI (isN x n), w) := by
  unfold fX0_hasGarment
  rw [chk_t hc.B.1, X7_isWithin, hn, ob_s, iteN (by omega), chk_t (bI_01 _)]
theorem X8_isOne {w : Wd} {n : Nat} (hc : ShM w) (hn : wI w 0 3 = nI n) (h8 : n ≤ 8) (x : Int32) : fX8_isOne 0 x w = some (bI (isN x n), w) := by
  unfold fX8_isOne
  rw [chk_t hc.O, X8_within, hn, ob_s, iteN (by omega), chk_t (bI_01 _)]
theorem X8_isGarment {w : Wd} {n : Nat} (hc : ShM w) (hn : wI w 0 6 = nI n) (h8 : n ≤ 8) (x : Int32) : fX8_isGarment 0 x w = some (bI (isN x n), w) := by
  unfold fX8_isGarment
  rw [chk_t hc.O, X8_within, hn, ob_s, iteN (by omega), chk_t (bI_01 _)]
theorem X7_areDaysAndHour (n x : Int32) (w : Wd) : fX7_areDaysAndHour n x w = some (bI (isN n 61 ∧ isN x 12), w) := by
  have e := iteN (x := n) (n := 61) (by decide)
  rw [show nI 61 - 1 = 60 from by decide] at e
  unfold fX7_areDaysAndHour
  rw [X7_isWithin, ob_s, e, X7_isHour]
  by_cases h1 : isN n 61
  · by_cases h2 : isN x 12
    · rw [bI_t h1, bI_t h2, bI_t ⟨h1, h2⟩]
      rfl
    · rw [bI_t h1, bI_f h2, bI_f (P := isN n 61 ∧ isN x 12) (fun q => h2 q.2)]
      rfl
  · rw [bI_f h1, bI_f (P := isN n 61 ∧ isN x 12) (fun q => h1 q.1)]
    rfl
