/-! learning in the model -/
def smT (k hb : Nat) : Nat := if (k = 4 ∨ k = 6) ∧ hb ≠ 0 then 0 else spT k
theorem X8_step {w : Wd} (hc : ShM w) {g k hb : Nat} (hg : g < 8) (hk : wI w 6 g = nI k) (h7 : k < 7) (h9 : hb ≤ 9) : fX8_step 0 (nI g) (nI hb) w = some (nI (smT k hb), w) := by
  have a0 := hc.O
  obtain ⟨c1, c2, c3⟩ := hc.a6
  obtain ⟨b1, b2⟩ := inb8 hg
  unfold fX8_step
  simp only [chk_t a0, c1, ob_s, chk_t c2, c3, chk_t b1, b2, hk, fX8_step_b40, fX8_step_b42, fX8_step_b52, eqL0 (show hb < 2147483648 by omega)]
  by_cases e : hb = 0
  · rw [show smT k hb = spT k from if_neg (fun q => q.2 e)]
    simp only [if_pos e]
    rcases (show k = 0 ∨ k = 1 ∨ k = 2 ∨ k = 3 ∨ k = 4 ∨ k = 5 ∨ k = 6 by omega) with q | q | q | q | q | q | q <;> subst q <;> rfl
  · rw [show smT k hb = if k = 4 ∨ k = 6 then 0 else spT k from by unfold smT; simp [e]]
    simp only [if_neg e]
    rcases (show k = 0 ∨ k = 1 ∨ k = 2 ∨ k = 3 ∨ k = 4 ∨ k = 5 ∨ k = 6 by omega) with q | q | q | q | q | q | q <;> subst q <;> rfl
