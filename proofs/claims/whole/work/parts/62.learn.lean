/-! learning, one habit -/
def spT (k : Nat) : Nat := if k = 2 ∨ k = 3 then 2 else if k = 4 ∨ k = 6 then 9 else if k = 5 then 3 else 1
def lrS (k hb fm d : Nat) : Nat × Nat :=
  if d = 0 then (hb, fm) else if (k = 4 ∨ k = 6) ∧ hb ≠ 0 then (hb, fm) else if hb = d then (hb, if fm + spT k < 9 then fm + spT k else 9) else if fm ≤ spT k then (d, if k = 4 ∨ k = 6 then 9 else 1) else (hb, fm - spT k)
theorem saV1 : ∀ k, k < 7 → inb (nI k) (saV 1).length ∧ (saV 1).getD (nI k).toNatClampNeg 0 = nI (spT k) := by decide +kernel
theorem spT_le (k : Nat) : spT k ≤ 9 := by
  unfold spT
  by_cases e : k = 2 ∨ k = 3
  · rw [if_pos e]; decide
  · rw [if_neg e]
    by_cases e2 : k = 4 ∨ k = 6
    · rw [if_pos e2]; decide
    · rw [if_neg e2]
      by_cases e3 : k = 5
      · rw [if_pos e3]; decide
      · rw [if_neg e3]; decide
theorem X2_step {w : Wd} {a k : Nat} (ho : isO w a 2) (hk : wI w a 2 = nI k) (h7 : k < 7) : fX2_step a w = some (nI (spT k), w) := by
  obtain ⟨s1, s2⟩ := saV1 k h7
  unfold fX2_step
  rw [chk_t ho, hk, chk_t s1, s2]
theorem X2_learnsOnce {w : Wd} {a k : Nat} (ho : isO w a 2) (hk : wI w a 2 = nI k) (h7 : k < 7) : fX2_learnsOnce a w = some (if k = 4 ∨ k = 6 then 1 else 0, w) := by
  unfold fX2_learnsOnce
  rw [chk_t ho, hk]
  rcases (show k = 0 ∨ k = 1 ∨ k = 2 ∨ k = 3 ∨ k = 4 ∨ k = 5 ∨ k = 6 by omega) with e | e | e | e | e | e | e <;> subst e <;> rfl
theorem X8_isUnder4 (w : Wd) : ∀ k, k < 7 → fX8_isUnder (nI k) 4 w = some (if k = 4 ∨ k = 6 then 1 else 0, w)
  | 0, _ => rfl
  | 1, _ => rfl
  | 2, _ => rfl
  | 3, _ => rfl
  | 4, _ => rfl
  | 5, _ => rfl
  | 6, _ => rfl
  | k + 7, h => absurd h (by omega)
theorem lrS_le {k hb fm d : Nat} (h1 : hb ≤ 9) (h2 : fm ≤ 9) (hz : hb = 0 ↔ fm = 0) (hd : d ≤ 9) : (lrS k hb fm d).1 ≤ 9 ∧ (lrS k hb fm d).2 ≤ 9 ∧ ((lrS k hb fm d).1 = 0 ↔ (lrS k hb fm d).2 = 0) := by
  unfold lrS
  by_cases e1 : d = 0
  · rw [if_pos e1]; exact ⟨h1, h2, hz⟩
  · rw [if_neg e1]
    by_cases e2 : (k = 4 ∨ k = 6) ∧ hb ≠ 0
    · rw [if_pos e2]; exact ⟨h1, h2, hz⟩
    · rw [if_neg e2]
      by_cases e3 : hb = d
      · rw [if_pos e3]
        by_cases e4 : fm + spT k < 9
        · rw [if_pos e4]; exact ⟨h1, by show fm + spT k ≤ 9; omega, by show hb = 0 ↔ fm + spT k = 0; omega⟩
        · rw [if_neg e4]; exact ⟨h1, by show 9 ≤ 9; omega, by show hb = 0 ↔ 9 = 0; omega⟩
      · rw [if_neg e3]
        by_cases e4 : fm ≤ spT k
        · rw [if_pos e4]
          by_cases e5 : k = 4 ∨ k = 6
          · rw [if_pos e5]; exact ⟨hd, by show 9 ≤ 9; omega, by show d = 0 ↔ 9 = 0; omega⟩
          · rw [if_neg e5]; exact ⟨hd, by show 1 ≤ 9; omega, by show d = 0 ↔ 1 = 0; omega⟩
        · rw [if_neg e4]; exact ⟨h1, by show fm - spT k ≤ 9; omega, by show hb = 0 ↔ fm - spT k = 0; omega⟩
