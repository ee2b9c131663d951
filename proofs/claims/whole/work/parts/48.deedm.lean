theorem X8_has (m g : Nat) (hm : m < 256) (hg : g < 8) (w : Wd) : fX8_has (nI m) (nI g) w = some (if m.testBit g then 1 else 0, w) := by
  unfold fX8_has
  rw [sh_bit g hg m hm]
  by_cases e : m.testBit g = true
  · rw [if_pos e]
    rfl
  · rw [if_neg e]
    rfl
/-- who of p's garments counts, m left out -/
def wnM (C : Cl) (p m : Nat) (g : Nat) : Bool := decide (cWr C g = p + 1) && !m.testBit g
theorem wv_eq {a p : Nat} (ha : a < 100) (hp : p < 100) : (wv a = nI p) = (a = p + 1) := by
  rw [← wv_s p]
  exact wv_inj (by omega) (by omega)
theorem X8_doesWithout {w : Wd} {C : Cl} (hc : ShM w) (hx : IsM w C) (hI : CI C) {p h m : Nat} (hp : p < cP C) (hh : h < 12) (hm : m < 256) : fX8_doesWithout 0 (nI p) (nI h) (nI m) w = some (nI (deedS C p h (wnM C p m) (cWl C p)), w) := by
  have hG : cG C ≤ 8 := hI.1.2
  have hP : cP C ≤ 6 := hI.1.1
  have a0 := hc.O
  obtain ⟨e1, e2, e3⟩ := hc.a8
  obtain ⟨o1, o2⟩ := hx.2.1 p hp
  have o3 := o2 h hh
  obtain ⟨w1, w2⟩ := hI.2.1 p hp
  have w3 := w2 h hh
  unfold fX8_doesWithout
  refine it_for (fun i => (wv (fF (fun g => pullS C g h) (wnM C p m) i), nI i, w)) (cG C) (by omega) (fun i hi => ?_) ?_
  · obtain ⟨b1, b2⟩ := inb8 (show i < 8 by omega)
    obtain ⟨⟨k1, k2, k3⟩, k4⟩ := hx.2.2 i hi
    obtain ⟨⟨q1, q3, q4⟩, q2⟩ := hI.2.2 i hi
    have hf := fF_le (fun g => pullS C g h) (wnM C p m) i
    unfold fX8_doesWithout_L6_body
    simp only [chk_t a0, hx.1.2.1, nI_le_iff (show cG C < 2147483648 by omega) (show i < 2147483648 by omega), if_neg (Nat.not_le.mpr hi), e1, ob_s, chk_t e2, e3, chk_t b1, b2, k3, wv_eq (show cWr C i < 100 by omega) (show p < 100 by omega), X8_has m i hm (by omega), X8_pull hc hx hI hi hh, fF_s, wnM, Bool.and_eq_true, decide_eq_true_eq, Bool.not_eq_true']
    generalize fF (fun g => pullS C g h) (wnM C p m) i = t at hf ⊢
    by_cases f1 : cWr C i = p + 1
    · rw [if_pos f1]
      cases f2 : m.testBit i with
      | true =>
        rw [if_pos rfl, if_neg (show ¬ (1 : Int32) = 0 by decide), if_neg (fun q => absurd q.1.2 (by decide))]
        unfold fX8_doesWithout_b62
        rw [nI_1]
      | false =>
        rw [if_pos (show (if false = true then (1 : Int32) else 0) = 0 from rfl)]
        cases t with
        | zero =>
          rw [wv_0, if_pos rfl, if_pos ⟨⟨f1, rfl⟩, Or.inl rfl⟩]
          unfold fX8_doesWithout_b58 fX8_doesWithout_b62
          rw [nI_1, wv_s]
        | succ t =>
          have hl1 := pull_le hI hi hh
          have hl2 := pull_le hI (show t < cG C by omega) hh
          simp only [wv_s, if_neg (show ¬ nI t = -1 from fun q => absurd (q ▸ (by decide : (-1 : Int32) < 0)) (nI_pos (by omega))), X8_pull hc hx hI (show t < cG C by omega) hh, ob_s, chk_t a0, nI_le_iff (show pullS C i h < 2147483648 by omega) (show pullS C t h < 2147483648 by omega), Nat.add_sub_cancel]
          by_cases f3 : pullS C i h ≤ pullS C t h
          · rw [if_pos f3, if_neg (fun q => q.2.elim (fun r => by omega) (fun r => by omega))]
            unfold fX8_doesWithout_b62
            rw [nI_1, wv_s]
          · rw [if_neg f3, if_pos ⟨⟨f1, trivial⟩, Or.inr (by omega)⟩]
            unfold fX8_doesWithout_b58 fX8_doesWithout_b62
            rw [nI_1, wv_s]
    · rw [if_neg f1, if_neg (fun q => f1 q.1.1)]
      unfold fX8_doesWithout_b62
      rw [nI_1]
  · have hf := fF_le (fun g => pullS C g h) (wnM C p m) (cG C)
    obtain ⟨u1, u2, u3⟩ := hc.a5
    obtain ⟨v1, v2, v3⟩ := hc.a4
    obtain ⟨x1, x2, x3⟩ := hc.a9
    obtain ⟨y1, y2⟩ := inb72 (show p < 6 by omega) hh
    obtain ⟨z1, z2⟩ := inb6 (show p < 6 by omega)
    unfold fX8_doesWithout_L6_body deedS
    rw [fF_dF]
    generalize fF (fun g => pullS C g h) (wnM C p m) (cG C) = t at hf ⊢
    simp only [chk_t a0, hx.1.2.1, if_pos (Int32.le_refl _), fX8_doesWithout_b105, fX8_doesWithout_b116, u1, ob_s, chk_t u2, u3, tw_mul_nI, nI_add, chk_t y1, y2, o3, v1, chk_t v2, v3, chk_t z1, z2, o1]
    cases t with
    | zero =>
      rw [wv_0, if_pos rfl, if_neg (fun q => q.1 rfl), wr_s]
    | succ t =>
      have hl2 := pull_le hI (show t < cG C by omega) hh
      obtain ⟨m1, m2⟩ := inb96 (show t < 8 by omega) hh
      obtain ⟨-, k4⟩ := hx.2.2 t (by omega)
      simp only [wv_s, if_neg (show ¬ nI t = -1 from fun q => absurd (q ▸ (by decide : (-1 : Int32) < 0)) (nI_pos (by omega))), X8_pull hc hx hI (show t < cG C by omega) hh, ob_s, chk_t a0, chk_t z1, z2, nI_le_iff (show pullS C t h < 2147483648 by omega) (show cWl C p < 2147483648 by omega), Nat.add_sub_cancel, v1, chk_t v2, v3, o1, x1, chk_t x2, x3, tw_mul_nI, nI_add, chk_t m1, m2, (k4 h hh).1]
      by_cases f3 : pullS C t h ≤ cWl C p
      · rw [if_pos f3, if_neg (fun q => by omega)]
        simp only [u1, ob_s, chk_t u2, u3, chk_t y1, y2, o3, wr_s]
      · rw [if_neg f3, if_pos ⟨Nat.succ_ne_zero t, by omega⟩]
        simp only [x1, ob_s, chk_t x2, x3, chk_t m1, m2, (k4 h hh).1, wr_s]
theorem X8_doesNow {w : Wd} {C : Cl} (hc : ShM w) (hx : IsM w C) (hI : CI C) {p h : Nat} (hp : p < cP C) (hh : h < 12) : fX8_doesNow 0 (nI p) (nI h) w = some (nI (doesS C p h), w) := by
  have key := X8_doesWithout hc hx hI hp hh (m := 0) (by decide)
  unfold fX8_doesNow
  rw [chk_t hc.O, show (0 : Int32) = nI 0 from rfl, key, ob_s]
  exact congrArg (fun d => some (nI d, w)) (deed_congr (fun g hg => by simp [wnM]))
