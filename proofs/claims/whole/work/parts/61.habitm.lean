/-! writing a habit, in the model -/
theorem ix12 {k g i h : Nat} (hi : i < 12) (hh : h < 12) : 12 * k + i = 12 * g + h ↔ k = g ∧ i = h := by
  constructor
  · intro e
    have e1 : k = g := by omega
    exact ⟨e1, by omega⟩
  · intro e
    rw [e.1, e.2]
theorem IsM_setH {w : Wd} {C : Cl} (hx : IsM w C) {g h : Nat} (hh : h < 12) (u v : Nat) : IsM (sI (sI w 9 (12 * g + h) (nI u)) 10 (12 * g + h) (nI v)) (setH C g h u v) := by
  refine ⟨?_, fun q hq => ?_, fun k hk => ?_⟩
  · rw [wI_ne (by decide), wI_ne (by decide)]
    exact hx.1
  · rw [wI_ne (show (4 : Nat) ≠ 10 by decide), wI_ne (show (4 : Nat) ≠ 9 by decide), wI_ne (show (5 : Nat) ≠ 10 by decide), wI_ne (show (5 : Nat) ≠ 9 by decide)]
    exact hx.2.1 q hq
  · obtain ⟨h0, h4⟩ := hx.2.2 k hk
    rw [wI_ne (show (6 : Nat) ≠ 10 by decide), wI_ne (show (6 : Nat) ≠ 9 by decide), wI_ne (show (7 : Nat) ≠ 10 by decide), wI_ne (show (7 : Nat) ≠ 9 by decide), wI_ne (show (8 : Nat) ≠ 10 by decide), wI_ne (show (8 : Nat) ≠ 9 by decide)]
    refine ⟨h0, fun i hi => ⟨?_, ?_⟩⟩
    · rw [wI_ne (show (9 : Nat) ≠ 10 by decide), wI_sI]
      change _ = nI (if k = g ∧ i = h then u else cHb C k i)
      by_cases e : k = g ∧ i = h
      · rw [if_pos ⟨rfl, (ix12 hi hh).mpr e⟩, if_pos e]
      · rw [if_neg (fun r => e ((ix12 hi hh).mp r.2)), if_neg e]
        exact (h4 i hi).1
    · rw [wI_sI]
      change _ = nI (if k = g ∧ i = h then v else cFm C k i)
      by_cases e : k = g ∧ i = h
      · rw [if_pos ⟨rfl, (ix12 hi hh).mpr e⟩, if_pos e]
      · rw [if_neg (fun r => e ((ix12 hi hh).mp r.2)), if_neg e, wI_ne (by decide)]
        exact (h4 i hi).2
theorem CI_setH {C : Cl} (hI : CI C) (g h : Nat) {u v : Nat} (hu : u ≤ 9) (hv : v ≤ 9) (hz : u = 0 ↔ v = 0) : CI (setH C g h u v) := by
  refine ⟨hI.1, hI.2.1, fun k hk => ⟨(hI.2.2 k hk).1, fun i hi => ?_⟩⟩
  change (if k = g ∧ i = h then u else cHb C k i) ≤ 9 ∧ (if k = g ∧ i = h then v else cFm C k i) ≤ 9 ∧ ((if k = g ∧ i = h then u else cHb C k i) = 0 ↔ (if k = g ∧ i = h then v else cFm C k i) = 0)
  by_cases e : k = g ∧ i = h
  · rw [if_pos e, if_pos e]
    exact ⟨hu, hv, hz⟩
  · rw [if_neg e, if_neg e]
    exact (hI.2.2 k hk).2 i hi
