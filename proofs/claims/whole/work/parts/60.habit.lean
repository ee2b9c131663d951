/-! writing a habit -/
theorem wI_ne {w : Wd} {a b i : Nat} {v : Int32} (h : b ≠ a) : wI (sI w a i v) b = wI w b := by
  unfold sI
  rw [wI_sIr, if_neg h]
def setH (C : Cl) (g h b f : Nat) : Cl := (C.1, C.2.1, C.2.2.1, C.2.2.2.1, C.2.2.2.2.1, C.2.2.2.2.2.1, C.2.2.2.2.2.2.1, C.2.2.2.2.2.2.2.1, C.2.2.2.2.2.2.2.2.1, (fun k i => if k = g ∧ i = h then b else cHb C k i), (fun k i => if k = g ∧ i = h then f else cFm C k i))
theorem X2_accustom {w : Wd} {a h : Nat} (hg : GaS w a) (hh : h < 12) (x y : Int32) : fX2_accustom a (nI h) x y w = some (sI (sI w (a + 1) h x) (a + 2) h y) := by
  obtain ⟨h1, h2, h3, h4, h5, h6, h7, h8⟩ := hg
  obtain ⟨n1, n2⟩ := inb12 hh
  have o : isO w a 2 := ⟨by omega, h2⟩
  have o2 : isO (sI w (a + 1) h x) a 2 := o
  have i1 : isA w (a + 1) 0 := ⟨by omega, h5⟩
  have i2 : isA (sI w (a + 1) h x) (a + 2) 0 := ⟨h1, h7⟩
  unfold fX2_accustom
  simp only [chk_t o, h3, ob_s, chk_t i1, h6, chk_t n1, n2, bnd_e, chk_t o2, wR_sI, wn_sI, h4, chk_t i2, h8]
theorem X8_becomes {w : Wd} (hc : ShM w) {g h : Nat} (hg : g < 8) (hh : h < 12) (x y : Int32) : fX8_becomes 0 (nI g) (nI h) x y w = some (sI (sI w 9 (12 * g + h) x) 10 (12 * g + h) y) := by
  have a0 := hc.O
  obtain ⟨c1, c2, c3⟩ := hc.a9
  obtain ⟨d1, d2, d3⟩ := hc.a10
  obtain ⟨m1, m2⟩ := inb96 hg hh
  have b0 : isO (sI w 9 (12 * g + h) x) 0 8 := a0
  have b2 : isA (sI w 9 (12 * g + h) x) 10 0 := d2
  unfold fX8_becomes
  simp only [chk_t a0, c1, ob_s, chk_t c2, c3, tw_mul_nI, nI_add, chk_t m1, m2, bnd_e, chk_t b0, wR_sI, wn_sI, d1, chk_t b2, d3]
theorem IsX_setH {w : Wd} {b : Nat} {C : Cl} (hx : IsX w b C) (hI : CI C) {g h : Nat} (hg : g < 8) (u v : Nat) : IsX (sI (sI w (gA b g + 1) h (nI u)) (gA b g + 2) h (nI v)) b (setH C g h u v) := by
  have hP : cP C ≤ 6 := hI.1.1
  refine ⟨?_, fun q hq => ?_, fun k hk => ?_⟩
  · rw [wI_ne (show b ≠ gA b g + 2 by unfold gA; omega), wI_ne (show b ≠ gA b g + 1 by unfold gA; omega)]
    exact hx.1
  · have hq6 : q < 6 := Nat.lt_of_lt_of_le hq hP
    obtain ⟨h1, h2⟩ := hx.2.1 q hq
    refine ⟨?_, fun i hi => ?_⟩
    · rw [wI_sI, if_neg (fun r => by have := r.1; unfold gA pA at this; omega), wI_sI, if_neg (fun r => by have := r.1; unfold gA pA at this; omega)]
      exact h1
    · rw [wI_sI, if_neg (fun r => by have := r.1; unfold gA pA at this; omega), wI_sI, if_neg (fun r => by have := r.1; unfold gA pA at this; omega)]
      exact h2 i hi
  · obtain ⟨⟨h1, h2, h3⟩, h4⟩ := hx.2.2 k hk
    refine ⟨⟨?_, ?_, ?_⟩, fun i hi => ⟨?_, ?_⟩⟩
    · rw [wI_sI, if_neg (fun r => by have := r.1; unfold gA at this; omega), wI_sI, if_neg (fun r => by have := r.1; unfold gA at this; omega)]; exact h1
    · rw [wI_sI, if_neg (fun r => by have := r.1; unfold gA at this; omega), wI_sI, if_neg (fun r => by have := r.1; unfold gA at this; omega)]; exact h2
    · rw [wI_sI, if_neg (fun r => by have := r.1; unfold gA at this; omega), wI_sI, if_neg (fun r => by have := r.1; unfold gA at this; omega)]; exact h3
    · rw [wI_sI, if_neg (fun r => by have := r.1; unfold gA at this; omega), wI_sI]
      change _ = nI (if k = g ∧ i = h then u else cHb C k i)
      by_cases e : k = g ∧ i = h
      · rw [if_pos ⟨by rw [e.1], e.2⟩, if_pos e]
      · rw [if_neg (fun r => e ⟨by have := r.1; unfold gA at this; omega, r.2⟩), if_neg e]
        exact (h4 i hi).1
    · rw [wI_sI]
      change _ = nI (if k = g ∧ i = h then v else cFm C k i)
      by_cases e : k = g ∧ i = h
      · rw [if_pos ⟨by rw [e.1], e.2⟩, if_pos e]
      · rw [if_neg (fun r => e ⟨by have := r.1; unfold gA at this; omega, r.2⟩), if_neg e, wI_sI, if_neg (fun r => by have := r.1; unfold gA at this; omega)]
        exact (h4 i hi).2
