/-! the first of some -/
def fI (f : Nat → Bool) : Nat → Nat
  | 0 => 0
  | n + 1 => if fI f n < n then fI f n else if f n then n else n + 1
theorem fI_s (f : Nat → Bool) (n : Nat) : fI f (n + 1) = if fI f n < n then fI f n else if f n then n else n + 1 := rfl
theorem fI_le (f : Nat → Bool) : ∀ n, fI f n ≤ n
  | 0 => Nat.le_refl 0
  | n + 1 => by
    have := fI_le f n
    rw [fI_s]
    by_cases e : fI f n < n
    · rw [if_pos e]; omega
    · rw [if_neg e]
      cases f n
      · exact Nat.le_refl (n + 1)
      · exact Nat.le_succ n
theorem fI_no (f : Nat → Bool) : ∀ n i, i < fI f n → f i = false
  | 0, i, h => absurd h (Nat.not_lt_zero i)
  | n + 1, i, h => by
    have hl := fI_le f n
    rw [fI_s] at h
    by_cases e : fI f n < n
    · rw [if_pos e] at h
      exact fI_no f n i h
    · rw [if_neg e] at h
      cases hf : f n with
      | true =>
        rw [if_pos hf] at h
        exact fI_no f n i (by omega)
      | false =>
        rw [if_neg (by rw [hf]; decide)] at h
        rcases Nat.lt_or_ge i n with q | q
        · exact fI_no f n i (by omega)
        · rw [show i = n by omega]
          exact hf
theorem fI_yes (f : Nat → Bool) : ∀ n, fI f n < n → f (fI f n) = true
  | 0, h => absurd h (Nat.not_lt_zero _)
  | n + 1, h => by
    rw [fI_s] at h ⊢
    by_cases e : fI f n < n
    · rw [if_pos e]
      exact fI_yes f n e
    · rw [if_neg e] at h ⊢
      cases hf : f n with
      | true =>
        rw [if_pos rfl]
        exact hf
      | false =>
        rw [hf, if_neg (by decide)] at h
        omega
/-! home -/
def hmS (C : Cl) (g : Nat) : Nat := fI (fun h => gnS C g h) 12
def hmR (C : Cl) (g q : Nat) : Int32 := if hmS C g < 12 then 100 * nI q + nI (hmS C g) else -1
theorem X7_homeL {w : Wd} {C : Cl} (hs : ShX w) (hx : IsX w 3 C) (hI : CI C) {g q : Nat} (hg : g < cG C) : fX7_home_L35 0 (nI g) (nI q) (0, w) = some (hmR C g q, w) := by
  have hc := hs.cl (Or.inl rfl)
  obtain ⟨a1, -⟩ := hc.B
  obtain ⟨t1, t2, t3, t4, t5, t6, t7, t8, t9⟩ := hs.T
  have hle := fI_le (fun h => gnS C g h) 12
  unfold fX7_home_L35
  refine it_for (fun i => (nI i, w)) (hmS C g) (by unfold hmS; omega) (fun i hi => ?_) ?_
  · have hn := fI_no (fun h => gnS C g h) 12 i hi
    have h12 : i < 12 := Nat.lt_of_lt_of_le hi hle
    unfold fX7_home_L35_body
    simp only [leL12 (show i < 2147483648 by omega), if_neg (Nat.not_le.mpr h12), chk_t t1, t4, ob_s, chk_t a1, X0_isGoing hc hx hI hg h12, nI_1]
    rw [if_pos (by rw [hn]; rfl)]
  · have hy := fI_yes (fun h => gnS C g h) 12
    unfold fX7_home_L35_body hmR
    unfold hmS at hle ⊢
    generalize fI (fun h => gnS C g h) 12 = t at hle hy ⊢
    simp only [leL12 (show t < 2147483648 by omega)]
    by_cases e : t < 12
    · rw [if_neg (Nat.not_le.mpr e), if_pos e]
      simp only [chk_t t1, t4, ob_s, chk_t a1, X0_isGoing hc hx hI hg e]
      rw [if_neg (by rw [hy e]; decide), wr_s]
    · rw [if_pos (Nat.not_lt.mp e), if_neg e, wr_s]
theorem X8_homeL {w : Wd} {C : Cl} (hc : ShM w) (hx : IsM w C) (hI : CI C) {g : Nat} (hg : g < cG C) {x : Int32} : fX8_home_L22 0 (nI g) x (0, w) = some (if hmS C g < 12 ∧ ¬ x = -1 then 100 * x + nI (hmS C g) else -1, w) := by
  have a0 := hc.O
  have hle := fI_le (fun h => gnS C g h) 12
  unfold fX8_home_L22
  refine it_for (fun i => (nI i, w)) (hmS C g) (by unfold hmS; omega) (fun i hi => ?_) ?_
  · have hn := fI_no (fun h => gnS C g h) 12 i hi
    have h12 : i < 12 := Nat.lt_of_lt_of_le hi hle
    unfold fX8_home_L22_body
    simp only [leL12 (show i < 2147483648 by omega), if_neg (Nat.not_le.mpr h12), chk_t a0, ob_s, X8_goesNow hc hx hI hg h12, nI_1]
    rw [if_pos (by rw [hn]; rfl)]
  · have hy := fI_yes (fun h => gnS C g h) 12
    unfold fX8_home_L22_body
    unfold hmS at hle ⊢
    generalize fI (fun h => gnS C g h) 12 = t at hle hy ⊢
    simp only [leL12 (show t < 2147483648 by omega)]
    by_cases e : t < 12
    · rw [if_neg (Nat.not_le.mpr e)]
      simp only [chk_t a0, ob_s, X8_goesNow hc hx hI hg e]
      rw [if_neg (by rw [hy e]; decide)]
      by_cases e2 : x = -1
      · rw [if_pos e2, if_neg (fun q => q.2 e2)]
        unfold fX8_home_b52
        rw [wr_s]
      · rw [if_neg e2, if_pos ⟨e, e2⟩]
        unfold fX8_home_b52
        rw [wr_s]
    · rw [if_pos (Nat.not_lt.mp e), if_neg (fun q => e q.1), wr_s]
/-! counts of habits -/
def hbS (C : Cl) (g : Nat) : Nat := cntN (fun h => decide (¬ cHb C g h = 0)) 12
def haS (C : Cl) : Nat → Nat
  | 0 => 0
  | n + 1 => haS C n + hbS C n
theorem cntN_congr {f f' : Nat → Bool} : ∀ n, (∀ i, i < n → f i = f' i) → cntN f n = cntN f' n
  | 0, _ => rfl
  | n + 1, h => by
    rw [cntN_s, cntN_s, cntN_congr n (fun i hi => h i (by omega)), h n (by omega)]
theorem X0_countHabits {w : Wd} {b : Nat} {C : Cl} (hc : ClS w b) (hx : IsX w b C) (hI : CI C) : fX0_countHabits b w = some (nI (haS C (cG C)), w) := by
  have hG : cG C ≤ 8 := hI.1.2
  obtain ⟨a1, a2, a3, a4, a5, a6, a7, a8, -⟩ := hc.B
  unfold fX0_countHabits fX0_countHabits_L4
  refine it_for (fun i => (nI (haS C i), nI i, w)) (cG C) (by omega) (fun i hi => ?_) ?_
  · obtain ⟨b1, b2, b3, b4, b5, b6, b7, b8, b9, b10⟩ := hc.G (show i < 8 by omega)
    have hga : GaS w (gA b i) := (hc.2.2 i (by omega)).2
    unfold fX0_countHabits_L4_body
    simp only [chk_t a1, hx.1.2.1, nI_le_iff (show cG C < 2147483648 by omega) (show i < 2147483648 by omega), if_neg (Nat.not_le.mpr hi), a3, ob_s, chk_t a7, a8, chk_t b1, b2, b3, chk_t b4, X2_countHabits hga, bnd_e, nI_add, nI_1]
    have e : cntN (fun j => decide (¬ wI w (gA b i + 1) j = 0)) 12 = hbS C i := by
      refine cntN_congr 12 (fun j hj => ?_)
      have r1 := ((hx.2.2 i hi).2 j hj).1
      have r2 := ((hI.2.2 i hi).2 j hj).1
      rw [r1]
      simp only [eqL0 (show cHb C i j < 2147483648 by omega)]
    rw [e]
    rfl
  · unfold fX0_countHabits_L4_body
    simp only [chk_t a1, hx.1.2.1, if_pos (Int32.le_refl _), wr_s]
theorem X8_habits {w : Wd} {C : Cl} (hc : ShM w) (hx : IsM w C) (hI : CI C) {g : Nat} (hg : g < cG C) : fX8_habits 0 (nI g) w = some (nI (hbS C g), w) := by
  have hG : cG C ≤ 8 := hI.1.2
  have a0 := hc.O
  obtain ⟨c1, c2, c3⟩ := hc.a9
  unfold fX8_habits fX8_habits_L4
  refine it_for (fun i => (nI (cntN (fun h => decide (¬ cHb C g h = 0)) i), nI i, w)) 12 (by decide) (fun i hi => ?_) ?_
  · obtain ⟨m1, m2⟩ := inb96 (show g < 8 by omega) hi
    have r1 := ((hx.2.2 g hg).2 i hi).1
    have r2 := ((hI.2.2 g hg).2 i hi).1
    unfold fX8_habits_L4_body
    simp only [leL12 (show i < 2147483648 by omega), if_neg (Nat.not_le.mpr hi), chk_t a0, c1, ob_s, chk_t c2, c3, tw_mul_nI, nI_add, chk_t m1, m2, r1, eqL0 (show cHb C g i < 2147483648 by omega), fX8_habits_b27, nI_1, cntN_s]
    by_cases e : cHb C g i = 0
    · rw [if_pos e, if_neg (show ¬ decide (¬ cHb C g i = 0) = true from fun q => (of_decide_eq_true q) e)]
      rfl
    · rw [if_neg e, if_pos (decide_eq_true e)]
  · rfl
theorem X8_allHabits {w : Wd} {C : Cl} (hc : ShM w) (hx : IsM w C) (hI : CI C) : fX8_allHabits 0 w = some (nI (haS C (cG C)), w) := by
  have hG : cG C ≤ 8 := hI.1.2
  have a0 := hc.O
  unfold fX8_allHabits fX8_allHabits_L4
  refine it_for (fun i => (nI (haS C i), nI i, w)) (cG C) (by omega) (fun i hi => ?_) ?_
  · unfold fX8_allHabits_L4_body
    simp only [chk_t a0, hx.1.2.1, nI_le_iff (show cG C < 2147483648 by omega) (show i < 2147483648 by omega), if_neg (Nat.not_le.mpr hi), X8_habits hc hx hI hi, ob_s, bnd_e, nI_add, nI_1]
    rfl
  · unfold fX8_allHabits_L4_body
    simp only [chk_t a0, hx.1.2.1, if_pos (Int32.le_refl _), wr_s]
