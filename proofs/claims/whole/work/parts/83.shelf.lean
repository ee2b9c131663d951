/-! shelves: asking, setting, showing, saying; told rows -/
theorem bI_T {i : Decidable True} : @bI True i = 1 := if_pos trivial
theorem bI_F {i : Decidable False} : @bI False i = 0 := if_neg not_false
def RowE (x m : Wd) (s k l : Nat) : Prop := (k < 4 ∧ l ≤ 160) ∧ wI m 1 s = nI (100 + k) ∧ wI x (135 + 2 * s) 2 = nI (100 + k) ∧ wI x (135 + 2 * s) 1 = nI l ∧ wI m 2 s = nI l ∧ ∀ i, i < l → wL x (136 + 2 * s) i = wL m 3 (160 * s + i)
/-- what a shelf holds: nothing, a garment, a row -/
theorem RelC.sh {C : Cl} {x m : Wd} (h : RelC C x m) {s : Nat} (h8 : s < 8) : (wI m 1 s = -1 ∧ wI x (135 + 2 * s) 2 = -1) ∨ (∃ g, g < cG C ∧ wI m 1 s = nI g ∧ wI x (135 + 2 * s) 2 = nI g) ∨ ∃ k l, RowE x m s k l := by
  obtain ⟨s1, s2⟩ := h.2.2.1 s h8
  rcases s2 with s2 | ⟨g, q1, q2⟩ | ⟨k, l, q1, q2, q3, q4, q5, q6⟩
  · exact Or.inl ⟨s2, s1.trans s2⟩
  · exact Or.inr (Or.inl ⟨g, q1, q2, s1.trans q2⟩)
  · exact Or.inr (Or.inr ⟨k, l, ⟨q1, q2⟩, q3, s1.trans q3, q4, q5, q6⟩)
theorem X6_holdsN {w : Wd} {a : Nat} (o : isO w a 6) (c : Int32) (hc : wI w a 2 = c) : fX6_holdsNothing a w = some (bI (c = -1), w) := by
  unfold fX6_holdsNothing
  rw [chk_t o, hc]
  by_cases e : c = -1
  · rw [if_pos e, bI_t e]; exact c01_1 w
  · rw [if_neg e, bI_f e]; exact c01_0 w
theorem X6_holdsG {w : Wd} {a : Nat} (o : isO w a 6) (c : Int32) (hc : wI w a 2 = c) : fX6_holdsGarment a w = some (bI (¬ c = -1 ∧ ¬ 100 ≤ c), w) := by
  unfold fX6_holdsGarment
  rw [chk_t o, hc]
  by_cases e : c = -1
  · rw [if_pos e, bI_f (fun q => q.1 e)]; exact c01_0 w
  · rw [if_neg e]
    by_cases e2 : (100 : Int32) ≤ c
    · rw [if_pos e2, bI_f (fun q => q.2 e2)]; exact c01_0 w
    · rw [if_neg e2, bI_t ⟨e, e2⟩]; exact c01_1 w
theorem X6_holdsR {w : Wd} {a : Nat} (o : isO w a 6) (c : Int32) (hc : wI w a 2 = c) : fX6_holdsRow a w = some (bI (¬ c < 100), w) := by
  unfold fX6_holdsRow
  rw [chk_t o, hc]
  by_cases e : c < 100
  · rw [if_pos e, bI_f (not_not_intro e)]; exact c01_0 w
  · rw [if_neg e, bI_t e]; exact c01_1 w
theorem X8_isRow {w : Wd} (hm : ShM w) {s : Nat} (h8 : s < 8) (c : Int32) (hc : wI w 1 s = c) : fX8_isRow 0 (nI s) w = some (bI (¬ c < 100), w) := by
  obtain ⟨e1, e2, e3⟩ := hm.a1
  obtain ⟨b1, b2⟩ := inb8 h8
  unfold fX8_isRow
  simp only [chk_t hm.O, e1, ob_s, chk_t e2, e3, chk_t b1, b2, hc]
  by_cases e : c < 100
  · rw [if_pos e, bI_f (not_not_intro e)]; exact c01_0 w
  · rw [if_neg e, bI_t e]; exact c01_1 w
theorem lt100 {g : Nat} (h : g < 100) : nI g < 100 := by
  have := ltR100 (show g < 2147483648 by omega)
  rw [this]
  exact h
theorem nlt100 (k : Nat) (h : k < 4) : ¬ nI (100 + k) < 100 := by
  have := ltR100 (show 100 + k < 2147483648 by omega)
  rw [this]
  omega
theorem le100 (k : Nat) (h : k < 4) : (100 : Int32) ≤ nI (100 + k) := by
  have := leL100 (show 100 + k < 2147483648 by omega)
  rw [this]
  omega
theorem nle100 {g : Nat} (h : g < 100) : ¬ (100 : Int32) ≤ nI g := by
  have := leL100 (show g < 2147483648 by omega)
  rw [this]
  omega
theorem nneg (n : Nat) (h : n < 2147483648) : (0 : Int32) ≤ nI n := by
  rw [leL0 h]
  exact Nat.zero_le n
theorem nI_le_sub {i : Int32} {l : Nat} (h : i < nI l) (hl : l ≤ 160) : i ≤ nI l - 1 := by
  rw [Int32.le_iff_toInt_le, Int32.toInt_sub, nI_toInt (by omega)]
  rw [Int32.lt_iff_toInt_lt, nI_toInt (by omega)] at h
  have h1 := Int32.le_toInt i
  rw [show (1 : Int32).toInt = 1 from by decide, Int.bmod_eq_of_le (by omega) (by omega)]
  omega
theorem rowT {C : Cl} {x m : Wd} (h : RelC C x m) (v : Int32) : (∃ s k l, s < 8 ∧ v = nI s ∧ RowE x m s k l ∧ fX7_rowTrouble 0 v x = some (0, x) ∧ fX8_noRow 0 v m = some (0, m)) ∨ ∃ c j, fX7_rowTrouble 0 v x = some (c, x) ∧ fX8_noRow 0 v m = some (c, m) ∧ ¬ c = 0 ∧ ¬ 0 ≤ c ∧ -c = nI j ∧ 1 ≤ j ∧ j < 8 := by
  obtain ⟨⟨hs, hm, hI, hx, hxm⟩, -⟩ := id h
  have hP : cP C ≤ 6 := hI.1.1
  have hG : cG C ≤ 8 := hI.1.2
  have hc := hs.cl (b := 3) (Or.inl rfl)
  obtain ⟨a1, a2, a3, a4, a5, a6, a7, a8, a9, a10⟩ := hc.B
  obtain ⟨t1, t2, t3, t4, t5, t6, t7, t8, t9⟩ := hs.T
  have a0 := hm.O
  have gG := X0_hasGarment hc (n := cG C) hx.1.2.1 (by omega)
  have gP := X0_hasPerson hc (n := cP C) hx.1.1 (by omega)
  have mG := X8_isGarment hm (n := cG C) hxm.1.2.1 (by omega)
  have mP := X8_isOne hm (n := cP C) hxm.1.1 (by omega)
  obtain ⟨e1, e2, e3⟩ := hm.a1
  unfold fX7_rowTrouble fX8_noRow fX8_noRow_b32 fX7_rowTrouble_b42 fX8_noRow_b47
  simp only [chk_t t1, t2, t3, t4, t5, ob_s, chk_t a1, chk_t a0, gG, gP, mG, mP, ob_eta, X7_isShelf, W8_7]
  by_cases e : isN v 8
  · obtain ⟨s, h8, rfl⟩ := isN_ex e
    obtain ⟨s1, s2, s3, s4, s5⟩ := hs.S h8
    obtain ⟨b1, b2⟩ := inb8 h8
    simp only [bI_t e, if_neg n10, chk_t t6, t7, chk_t b1, b2, s1, ob_s, chk_t s2, e1, chk_t e2, e3]
    rcases h.sh h8 with ⟨q1, q2⟩ | ⟨g, q0, q1, q2⟩ | ⟨k, l, hr⟩
    · refine Or.inr ⟨-3, 3, ?_, ?_, by decide, by decide, rfl, by decide, by decide⟩
      · simp only [X6_holdsG s2 _ q2, X6_holdsN s2 _ q2, ob_s, not_true_eq_false, false_and, bI_T, bI_F, if_true, chk_t t1, t2, chk_t t6, t7, chk_t b1, b2, s1, chk_t s2, if_neg n10]
      · simp only [q1, show ((-1 : Int32) < 0) = True from eq_true (by decide), if_true, chk_t a0, show ¬ (0 : Int32) ≤ -1 from by decide, if_false, e1, ob_s, chk_t e2, e3, chk_t b1, b2]
    · have g1 : ¬ nI g = -1 := nI_m1 (by omega)
      have g2 := nle100 (show g < 100 by omega)
      refine Or.inr ⟨-2, 2, ?_, ?_, by decide, by decide, rfl, by decide, by decide⟩
      · simp only [X6_holdsG s2 _ q2, ob_s, bI_t (show ¬ nI g = -1 ∧ ¬ 100 ≤ nI g from ⟨g1, g2⟩), if_neg n10]
      · simp only [q1, if_neg (nI_pos (show g < 2147483648 by omega)), X8_isRow hm h8 _ q1, ob_s, bI_f (not_not_intro (lt100 (show g < 100 by omega))), if_true]
    · obtain ⟨⟨k4, l1⟩, r1, r2, r3, r4, r5⟩ := id hr
      have g1 : ¬ nI (100 + k) = -1 := nI_m1 (by omega)
      refine Or.inl ⟨s, k, l, h8, rfl, hr, ?_, ?_⟩
      · simp only [X6_holdsG s2 _ r2, X6_holdsN s2 _ r2, ob_s, bI_f (show ¬ (¬ nI (100 + k) = -1 ∧ ¬ 100 ≤ nI (100 + k)) from fun q => q.2 (le100 k k4)), bI_f g1, if_true, chk_t t1, t2, chk_t t6, t7, chk_t b1, b2, s1, chk_t s2]
      · simp only [r1, if_neg (nI_pos (show 100 + k < 2147483648 by omega)), X8_isRow hm h8 _ r1, ob_s, bI_t (nlt100 k k4), if_neg n10, chk_t a0, e1, chk_t e2, e3, chk_t b1, b2, if_pos (nneg (100 + k) (by omega))]
  · refine Or.inr ⟨-1, 1, ?_, ?_, by decide, by decide, rfl, by decide, by decide⟩
    · simp only [bI_f e, if_true]
    · simp only [bI_f e, if_true]
theorem RowE.t {x m : Wd} {s k l : Nat} (hr : RowE x m s k l) : TX x s l (fun i => (wL x (136 + 2 * s) i).toInt32) ∧ TM m s l (fun i => (wL x (136 + 2 * s) i).toInt32) := by
  obtain ⟨⟨k4, l1⟩, r1, r2, r3, r4, r5⟩ := hr
  exact ⟨⟨⟨l1, r3⟩, fun i _ => rfl⟩, ⟨⟨l1, r4⟩, fun i hi => by
    show _ = (wL x (136 + 2 * s) i).toInt32
    rw [r5 i hi]⟩⟩
theorem dayT {C : Cl} {x m : Wd} (h : RelC C x m) (v : Int32) : (∃ s l d, s < 8 ∧ v = nI s ∧ TX x s l d ∧ TM m s l d ∧ 12 ≤ l ∧ fX7_toldDayTrouble 0 v x = some (0, x) ∧ fX8_noDay 0 v m = some (0, m)) ∨ ∃ c j, fX7_toldDayTrouble 0 v x = some (c, x) ∧ fX8_noDay 0 v m = some (c, m) ∧ ¬ c = 0 ∧ ¬ 0 ≤ c ∧ -c = nI j ∧ 1 ≤ j ∧ j < 8 := by
  obtain ⟨⟨hs, hm, hI, hx, hxm⟩, -⟩ := id h
  have hP : cP C ≤ 6 := hI.1.1
  have hG : cG C ≤ 8 := hI.1.2
  have hc := hs.cl (b := 3) (Or.inl rfl)
  obtain ⟨a1, a2, a3, a4, a5, a6, a7, a8, a9, a10⟩ := hc.B
  obtain ⟨t1, t2, t3, t4, t5, t6, t7, t8, t9⟩ := hs.T
  have a0 := hm.O
  have gG := X0_hasGarment hc (n := cG C) hx.1.2.1 (by omega)
  have gP := X0_hasPerson hc (n := cP C) hx.1.1 (by omega)
  have mG := X8_isGarment hm (n := cG C) hxm.1.2.1 (by omega)
  have mP := X8_isOne hm (n := cP C) hxm.1.1 (by omega)
  obtain ⟨e1, e2, e3⟩ := hm.a2
  unfold fX7_toldDayTrouble fX8_noDay fX7_toldDayTrouble_b32 fX8_noDay_b31
  rcases rowT h v with ⟨s, k, l, h8, rfl, hr, w1, w2⟩ | ⟨c, j, w1, w2, w3, w4, w5⟩
  · obtain ⟨s1, s2, s3, s4, s5⟩ := hs.S h8
    obtain ⟨b1, b2⟩ := inb8 h8
    obtain ⟨⟨k4, l1⟩, r1, r2, r3, r4, r5⟩ := id hr
    obtain ⟨tx, tm⟩ := hr.t
    simp only [chk_t t1, w1, ob_s, if_true, t2, chk_t t6, t7, chk_t b1, b2, s1, chk_t s2, r3, leL12 (show l < 2147483648 by omega), chk_t a0, w2, if_pos (show (0 : Int32) ≤ 0 by decide), e1, chk_t e2, e3, r4]
    by_cases e : 12 ≤ l
    · refine Or.inl ⟨s, l, _, h8, rfl, tx, tm, e, ?_, ?_⟩
      · rw [if_pos e]
      · rw [if_pos e]
    · refine Or.inr ⟨-5, 5, ?_, ?_, by decide, by decide, rfl, by decide, by decide⟩
      · rw [if_neg e]
      · rw [if_neg e]
  · refine Or.inr ⟨c, j, ?_, ?_, w3, w4, w5⟩
    · simp only [chk_t t1, w1, ob_s, if_neg w3]
    · simp only [chk_t a0, w2, ob_s, if_neg w4]
theorem C_fits {C : Cl} {x m : Wd} (h : RelC C x m) (v : Int32) : E2 (fX7_fits 0 v x) (fX8_fits 0 v m) := by
  obtain ⟨⟨hs, hm, hI, hx, hxm⟩, -⟩ := id h
  have hP : cP C ≤ 6 := hI.1.1
  have hG : cG C ≤ 8 := hI.1.2
  have hc := hs.cl (b := 3) (Or.inl rfl)
  obtain ⟨a1, a2, a3, a4, a5, a6, a7, a8, a9, a10⟩ := hc.B
  obtain ⟨t1, t2, t3, t4, t5, t6, t7, t8, t9⟩ := hs.T
  have a0 := hm.O
  have gG := X0_hasGarment hc (n := cG C) hx.1.2.1 (by omega)
  have gP := X0_hasPerson hc (n := cP C) hx.1.1 (by omega)
  have mG := X8_isGarment hm (n := cG C) hxm.1.2.1 (by omega)
  have mP := X8_isOne hm (n := cP C) hxm.1.1 (by omega)
  unfold fX7_fits fX8_fits
  rcases dayT h v with ⟨s, l, d, h8, rfl, tx, tm, hl, w1, w2⟩ | ⟨c, j, w1, w2, w3, w4, w5, w6, w7⟩
  · simp only [chk_t t1, chk_t a0, w1, w2, ob_s, if_true, if_pos (show (0 : Int32) ≤ 0 by decide), X7_fitsL hs hx hI h8 tx hl, X8_fitsL hm hxm hI h8 tm hl]
    exact E2_eq ⟨C, h⟩
  · simp only [chk_t t1, chk_t a0, w1, w2, ob_s, if_neg w3, if_neg w4, ob_eta]
    exact h.r w5 w6 w7
theorem C_judge {C : Cl} {x m : Wd} (h : RelC C x m) (v : Int32) (p : Int32) : E2 (fX7_judge 0 v p x) (fX8_judge 0 v p m) := by
  obtain ⟨⟨hs, hm, hI, hx, hxm⟩, -⟩ := id h
  have hP : cP C ≤ 6 := hI.1.1
  have hG : cG C ≤ 8 := hI.1.2
  have hc := hs.cl (b := 3) (Or.inl rfl)
  obtain ⟨a1, a2, a3, a4, a5, a6, a7, a8, a9, a10⟩ := hc.B
  obtain ⟨t1, t2, t3, t4, t5, t6, t7, t8, t9⟩ := hs.T
  have a0 := hm.O
  have gG := X0_hasGarment hc (n := cG C) hx.1.2.1 (by omega)
  have gP := X0_hasPerson hc (n := cP C) hx.1.1 (by omega)
  have mG := X8_isGarment hm (n := cG C) hxm.1.2.1 (by omega)
  have mP := X8_isOne hm (n := cP C) hxm.1.1 (by omega)
  have ns : ¬ isN v 8 → fX7_toldDayTrouble 0 v x = some (-1, x) ∧ fX8_noDay 0 v m = some (-1, m) := fun e => by
    unfold fX7_toldDayTrouble fX8_noDay fX7_rowTrouble fX8_noRow
    simp only [chk_t t1, chk_t a0, X7_isShelf, W8_7, bI_f e, ob_s, if_true, if_neg (show ¬ (-1 : Int32) = 0 by decide), if_neg (show ¬ (0 : Int32) ≤ -1 by decide), fX8_noDay_b31]
    exact ⟨trivial, trivial⟩
  unfold fX7_judge fX8_judge fX7_judge_b18
  simp only [chk_t t1, t2, t3, t4, t5, ob_s, chk_t a1, chk_t a0, gG, gP, mG, mP, ob_eta, X7_isShelf]
  by_cases e : isN p (cP C)
  · obtain ⟨k, hk, rfl⟩ := isN_ex e
    by_cases e8 : isN v 8
    · simp only [bI_t e, bI_t e8, if_neg n10]
      rcases dayT h v with ⟨s, l, d, h8, rfl, tx, tm, hl, w1, w2⟩ | ⟨c, j, w1, w2, w3, w4, w5, w6, w7⟩
      · simp only [chk_t t1, t2, t3, t4, t5, chk_t a1, chk_t a0, ob_eta, w1, w2, ob_s, if_true, if_pos (show (0 : Int32) ≤ 0 by decide), X7_judgeL hs hx hI h8 tx hl hk, X8_judgeL hm hxm hI h8 tm hl hk]
        exact E2_eq ⟨C, h⟩
      · simp only [chk_t t1, t2, t3, t4, t5, chk_t a1, chk_t a0, ob_eta, w1, w2, ob_s, if_neg w3, if_neg w4]
        exact h.rl w5 w6 w7
    · simp only [bI_t e, bI_f e8, if_neg n10, if_true, (ns e8).2, ob_s, if_neg (show ¬ (0 : Int32) ≤ -1 by decide), chk_t a0, ob_eta]
      exact h.l1
  · by_cases e8 : isN v 8
    · simp only [bI_f e, bI_t e8, if_neg n10, if_true]
      exact h.l1
    · simp only [bI_f e, bI_f e8, if_true]
      exact h.l1
theorem C_taught {C : Cl} {x m : Wd} (h : RelC C x m) (v : Int32) (g : Int32) : E2 (fX7_taught 0 v g x) (fX8_taught 0 v g m) := by
  obtain ⟨⟨hs, hm, hI, hx, hxm⟩, -⟩ := id h
  have hP : cP C ≤ 6 := hI.1.1
  have hG : cG C ≤ 8 := hI.1.2
  have hc := hs.cl (b := 3) (Or.inl rfl)
  obtain ⟨a1, a2, a3, a4, a5, a6, a7, a8, a9, a10⟩ := hc.B
  obtain ⟨t1, t2, t3, t4, t5, t6, t7, t8, t9⟩ := hs.T
  have a0 := hm.O
  have gG := X0_hasGarment hc (n := cG C) hx.1.2.1 (by omega)
  have gP := X0_hasPerson hc (n := cP C) hx.1.1 (by omega)
  have mG := X8_isGarment hm (n := cG C) hxm.1.2.1 (by omega)
  have mP := X8_isOne hm (n := cP C) hxm.1.1 (by omega)
  have ns : ¬ isN v 8 → fX7_toldDayTrouble 0 v x = some (-1, x) ∧ fX8_noDay 0 v m = some (-1, m) := fun e => by
    unfold fX7_toldDayTrouble fX8_noDay fX7_rowTrouble fX8_noRow
    simp only [chk_t t1, chk_t a0, X7_isShelf, W8_7, bI_f e, ob_s, if_true, if_neg (show ¬ (-1 : Int32) = 0 by decide), if_neg (show ¬ (0 : Int32) ≤ -1 by decide), fX8_noDay_b31]
    exact ⟨trivial, trivial⟩
  unfold fX7_taught fX8_taught fX7_taught_b18
  simp only [chk_t t1, t2, t3, t4, t5, ob_s, chk_t a1, chk_t a0, gG, gP, mG, mP, ob_eta, X7_isShelf]
  by_cases e : isN g (cG C)
  · obtain ⟨k, hk, rfl⟩ := isN_ex e
    by_cases e8 : isN v 8
    · simp only [bI_t e, bI_t e8, if_neg n10]
      rcases dayT h v with ⟨s, l, d, h8, rfl, tx, tm, hl, w1, w2⟩ | ⟨c, j, w1, w2, w3, w4, w5, w6, w7⟩
      · obtain ⟨s1, s2, s3, s4, s5⟩ := hs.S h8
        obtain ⟨b1, b2⟩ := inb8 h8
        simp only [chk_t t1, t2, t3, t4, t5, chk_t a1, chk_t a0, ob_eta, w1, w2, ob_s, if_true, if_pos (show (0 : Int32) ≤ 0 by decide), chk_t t6, t7, chk_t b1, b2, s1, chk_t s2, X6_tells hs h8 tx hl]
        cases ed : alB (fun h => decide (isN (d h) 10)) 12 with
        | true =>
          have hd : ∀ h, h < 12 → d h = nI (d h).toNatClampNeg ∧ (d h).toNatClampNeg ≤ 9 := fun h hh => by
            have := of_decide_eq_true (alB_e 12 ed h hh)
            exact ⟨isN_eq this, by have := this.2; omega⟩
          obtain ⟨p1, p2, p3, p4, p5, p6, p7, p8, p9, p10⟩ := hc.G (show k < 8 by omega)
          obtain ⟨s0, s1'⟩ := GaS.sp hs
          have s2' : isO x 123 2 := ⟨by have := s0.1; omega, s0.2.1⟩
          have tk := X2_take s0 (hc.2.2 k (by omega)).2 (hx.g hk) (by omega)
          simp only [if_true, if_neg n10, s1', a3, ob_s, chk_t a7, a8, chk_t p1, p2, p3, chk_t s2']
          refine E2_of (r := tauR (cKd C k) (cHb C k) (cFm C k) (fun h => (d h).toNatClampNeg)) (X := fun u => Fr (cG3 123) x u) (M := fun u => Fr cMx m u ∧ IsM u C) (Wp_c tk (fun u hu => ?_)) (X8_taughtL hm hxm hI h8 tm hl hd hk) (fun u v hu hv => ?_)
          · exact Wp_m (X7_taughtL (hu.1.shx hs) h8 (tx.fr hu.1 (by unfold cG3; omega)) hl hd (hI.g hk) hu.2) (fun q hq => ⟨hq.1, hu.1.trans hq.2⟩)
          · exact h.same (hu.mono (fun a i q => cXx_123 q)) (hu.mono (fun a i q => by have := q.1; omega)) hv.1 hv.2
        | false =>
          simp only [if_neg Bool.false_ne_true, if_true]
          obtain ⟨r, u, v, q1, q2, q3⟩ := h.l6
          obtain ⟨y, f1, f2⟩ := X8_taughtN hm h8 tm hl ed (nI k) (Wp_of q2 rfl)
          rw [q1, f1]
          exact ⟨r, u, v, rfl, by rw [f2], q3⟩
      · simp only [chk_t t1, t2, t3, t4, t5, chk_t a1, chk_t a0, ob_eta, w1, w2, ob_s, if_neg w3, if_neg w4]
        exact h.rl w5 w6 w7
    · simp only [bI_t e, bI_f e8, if_neg n10, if_true, (ns e8).2, ob_s, if_neg (show ¬ (0 : Int32) ≤ -1 by decide), chk_t a0, ob_eta]
      exact h.l1
  · by_cases e8 : isN v 8
    · simp only [bI_f e, bI_t e8, if_neg n10, if_true]
      exact h.l1
    · simp only [bI_f e, bI_f e8, if_true]
      exact h.l1
theorem C_holds {C : Cl} {x m : Wd} (h : RelC C x m) (v : Int32) : E2 (fX7_holds 0 v x) (fX8_holds 0 v m) := by
  obtain ⟨⟨hs, hm, hI, hx, hxm⟩, -⟩ := id h
  have hP : cP C ≤ 6 := hI.1.1
  have hG : cG C ≤ 8 := hI.1.2
  have hc := hs.cl (b := 3) (Or.inl rfl)
  obtain ⟨a1, a2, a3, a4, a5, a6, a7, a8, a9, a10⟩ := hc.B
  obtain ⟨t1, t2, t3, t4, t5, t6, t7, t8, t9⟩ := hs.T
  have a0 := hm.O
  have gG := X0_hasGarment hc (n := cG C) hx.1.2.1 (by omega)
  have gP := X0_hasPerson hc (n := cP C) hx.1.1 (by omega)
  have mG := X8_isGarment hm (n := cG C) hxm.1.2.1 (by omega)
  have mP := X8_isOne hm (n := cP C) hxm.1.1 (by omega)
  obtain ⟨e1, e2, e3⟩ := hm.a1
  unfold fX7_holds fX8_holds fX7_holds_b20 fX8_holds_b20
  simp only [chk_t t1, t2, t3, t4, t5, ob_s, chk_t a1, chk_t a0, gG, gP, mG, mP, ob_eta, X7_isShelf, W8_7]
  by_cases e : isN v 8
  · obtain ⟨s, h8, rfl⟩ := isN_ex e
    obtain ⟨s1, s2, s3, s4, s5⟩ := hs.S h8
    obtain ⟨b1, b2⟩ := inb8 h8
    simp only [bI_t e, if_neg n10, chk_t t6, t7, chk_t b1, b2, s1, ob_s, chk_t s2, e1, chk_t e2, e3, (h.2.2.1 s h8).1]
    exact E2_eq ⟨C, h⟩
  · simp only [bI_f e, if_true]
    exact E2_eq ⟨C, h⟩
theorem C_element {C : Cl} {x m : Wd} (h : RelC C x m) (v : Int32) (i : Int32) : E2 (fX7_element 0 v i x) (fX8_element 0 v i m) := by
  obtain ⟨⟨hs, hm, hI, hx, hxm⟩, -⟩ := id h
  have hP : cP C ≤ 6 := hI.1.1
  have hG : cG C ≤ 8 := hI.1.2
  have hc := hs.cl (b := 3) (Or.inl rfl)
  obtain ⟨a1, a2, a3, a4, a5, a6, a7, a8, a9, a10⟩ := hc.B
  obtain ⟨t1, t2, t3, t4, t5, t6, t7, t8, t9⟩ := hs.T
  have a0 := hm.O
  have gG := X0_hasGarment hc (n := cG C) hx.1.2.1 (by omega)
  have gP := X0_hasPerson hc (n := cP C) hx.1.1 (by omega)
  have mG := X8_isGarment hm (n := cG C) hxm.1.2.1 (by omega)
  have mP := X8_isOne hm (n := cP C) hxm.1.1 (by omega)
  obtain ⟨e1, e2, e3⟩ := hm.a1
  obtain ⟨f1, f2, f3⟩ := hm.a2
  obtain ⟨g1, g2, g3⟩ := hm.a3
  unfold fX7_element fX8_element fX7_element_b22 fX8_element_b49 fX8_element_b50
  simp only [W8_7]
  by_cases e : isN v 8
  · obtain ⟨s, h8, rfl⟩ := isN_ex e
    obtain ⟨s1, s2, s3, s4, s5⟩ := hs.S h8
    obtain ⟨b1, b2⟩ := inb8 h8
    simp only [chk_t t1, ob_s, bI_t e, if_neg n10, chk_t a0]
    rcases rowT h (nI s) with ⟨s', k, l, h8', es, hr, w1, w2⟩ | ⟨c, j, w1, w2, w3, w4, w5, w6, w7⟩
    · have es : s = s' := by
        rw [nI_eq_iff (by omega) (by omega)] at es
        exact es
      subst es
      obtain ⟨⟨k4, l1⟩, r1, r2, r3, r4, r5⟩ := id hr
      simp only [chk_t t1, t2, t3, t4, t5, chk_t a1, chk_t a0, ob_eta, w1, ob_s, if_true, t2, chk_t t6, t7, chk_t b1, b2, s1, chk_t s2, X8_isRow hm h8 _ r1, bI_t (nlt100 k k4), if_neg n10, f1, chk_t f2, f3, r4, X8_within, iteN (show l < 2147483648 by omega)]
      unfold fX6_at fX6_at_b21 fX6_at_b22
      by_cases ei : isN i l
      · obtain ⟨j, hj, rfl⟩ := isN_ex ei
        simp only [chk_t t1, t2, t3, t4, t5, chk_t a1, chk_t a0, ob_eta, bI_t ei, if_neg n10, if_neg (nI_pos (show j < 2147483648 by omega)), chk_t s2, r3, nI_le_iff (show l < 2147483648 by omega) (show j < 2147483648 by omega), if_neg (Nat.not_le.mpr hj), s3, ob_s, chk_t s4, s5, chk_t (inb_nI (show j < 160 by omega) (by decide)), nI_clamp (show j < 2 ^ 31 by omega), g1, chk_t g2, g3, show (160 : Int32) * nI s = nI (160 * s) from nI_mul 160 s, nI_add, chk_t (inb_nI (show 160 * s + j < 1280 by omega) (by decide)), nI_clamp (show 160 * s + j < 2 ^ 31 by omega), r5 j hj]
        exact E2_eq ⟨C, h⟩
      · simp only [chk_t t1, t2, t3, t4, t5, chk_t a1, chk_t a0, ob_eta, bI_f ei, if_true]
        by_cases i0 : i < 0
        · simp only [chk_t t1, t2, t3, t4, t5, chk_t a1, chk_t a0, ob_eta, if_pos i0, ob_s]
          exact E2_eq ⟨C, h⟩
        · have il : nI l ≤ i := Int32.not_lt.mp (fun q => ei ((rngN (by omega)).mp ⟨(le0 i).mpr i0, by
            have hh := nI_le_sub q l1
            exact hh⟩))
          simp only [chk_t t1, t2, t3, t4, t5, chk_t a1, chk_t a0, ob_eta, if_neg i0, chk_t s2, r3, if_pos il, ob_s]
          exact E2_eq ⟨C, h⟩
    · simp only [chk_t t1, t2, t3, t4, t5, chk_t a1, chk_t a0, ob_eta, w1, ob_s, if_neg w3]
      rcases h.sh h8 with ⟨q1, q2⟩ | ⟨g, q0, q1, q2⟩ | ⟨k, l, hr⟩
      · simp only [chk_t t1, t2, t3, t4, t5, chk_t a1, chk_t a0, ob_eta, X8_isRow hm h8 _ q1, ob_s, bI_f (show ¬ ¬ (-1 : Int32) < 100 by decide), if_true]
        exact E2_eq ⟨C, h⟩
      · simp only [chk_t t1, t2, t3, t4, t5, chk_t a1, chk_t a0, ob_eta, X8_isRow hm h8 _ q1, ob_s, bI_f (not_not_intro (lt100 (show g < 100 by omega))), if_true]
        exact E2_eq ⟨C, h⟩
      · exfalso
        obtain ⟨⟨k4, l1⟩, r1, r2, r3, r4, r5⟩ := id hr
        unfold fX7_rowTrouble fX7_rowTrouble_b42 at w1
        simp only [X7_isShelf, ob_s, bI_t e, if_neg n10, chk_t t1, t2, chk_t t6, t7, chk_t b1, b2, s1, chk_t s2, X6_holdsG s2 _ r2, X6_holdsN s2 _ r2, bI_f (show ¬ (¬ nI (100 + k) = -1 ∧ ¬ 100 ≤ nI (100 + k)) from fun q => q.2 (le100 k k4)), bI_f (nI_m1 (show 100 + k < 2147483648 by omega)), if_true] at w1
        have w1 := congrArg Prod.fst (Option.some.inj w1)
        exact w3 w1.symm
  · have w1 : fX7_rowTrouble 0 v x = some (-1, x) := by
      unfold fX7_rowTrouble
      simp only [X7_isShelf, ob_s, bI_f e, if_true]
    simp only [chk_t t1, w1, ob_s, if_neg (show ¬ (-1 : Int32) = 0 by decide), bI_f e, if_true]
    exact E2_eq ⟨C, h⟩
theorem wI_sL (w : Wd) (a i : Nat) (v : Int64) : wI (sL w a i v) = wI w := rfl
theorem wL_sL (w : Wd) (a i b j : Nat) (v : Int64) : wL (sL w a i v) b j = if b = a ∧ j = i then v else wL w b j := by
  change (if b = a then vp_updL (wL w a) i v else wL w b) j = _
  by_cases e : b = a
  · subst e
    rw [if_pos rfl]
    unfold vp_updL
    by_cases q : j = i
    · rw [if_pos q, if_pos ⟨rfl, q⟩]
    · rw [if_neg q, if_neg (fun r => q r.2)]
  · rw [if_neg e, if_neg (fun r => e r.1)]
/-- only elements change -/
theorem RelC.el {C : Cl} {x m x' m' : Wd} (h : RelC C x m) (hs : ShX x') (hm : ShM m') (h1 : wI x' = wI x) (h2 : wI m' = wI m) (hl : ∀ s k l, s < 8 → RowE x m s k l → ∀ i, i < l → wL x' (136 + 2 * s) i = wL m' 3 (160 * s + i)) : Rel x' m' := by
  obtain ⟨⟨r1, r2, r3, r4, r5⟩, r6, r7, r8, r9, r10⟩ := id h
  refine ⟨C, ⟨hs, hm, r3, ?_, ?_⟩, ?_, fun s h8 => ?_, ?_, ?_, ?_⟩
  · unfold IsX
    rw [h1]; exact r4
  · unfold IsM
    rw [h2]; exact r5
  · unfold ImE IsX
    rw [h1, h2]
    exact r6
  · have hh := h.sh h8
    unfold ShE
    rw [h1, h2]
    refine ⟨(r7 s h8).1, ?_⟩
    rcases hh with ⟨q1, q2⟩ | ⟨g, q0, q1, q2⟩ | ⟨k, l, hr⟩
    · exact Or.inl q1
    · exact Or.inr (Or.inl ⟨g, q0, q1⟩)
    · obtain ⟨⟨k4, l1⟩, w1, w2, w3, w4, w5⟩ := id hr
      exact Or.inr (Or.inr ⟨k, l, k4, l1, w1, w3, w4, hl s k l h8 hr⟩)
  · rw [h1, h2]; exact r8
  · rw [h1, h2]; exact r9
  · unfold TrE
    rw [h1, h2]; exact r10
theorem RelC.put {C : Cl} {x m : Wd} (h : RelC C x m) {s i : Nat} (h8 : s < 8) (hi : i < 160) (v : Int64) : Rel (sL x (136 + 2 * s) i v) (sL m 3 (160 * s + i) v) := by
  refine h.el h.1.1 h.1.2.1 rfl rfl (fun t k l ht hr j hj => ?_)
  obtain ⟨⟨k4, l1⟩, r1, r2, r3, r4, r5⟩ := hr
  rw [wL_sL, wL_sL]
  by_cases e : t = s ∧ j = i
  · rw [if_pos ⟨by omega, e.2⟩, if_pos ⟨rfl, by omega⟩]
  · rw [if_neg (by omega), if_neg (by omega)]
    exact r5 j hj
theorem X6_spans1 {w : Wd} {a l : Nat} (o : isO w a 6) (hl : wI w a 1 = nI l) (h1 : l ≤ 160) (i : Int32) : fX6_spans a i 1 w = some (bI (isN i l), w) := by
  unfold fX6_spans fX6_spans_b22
  by_cases i0 : i < 0
  · rw [if_pos i0, bI_f (fun q => q.1 i0)]; exact c01_0 w
  · rw [if_neg i0, if_neg (by decide), chk_t o, hl]
    by_cases e : nI l - 1 < i
    · rw [if_pos e, bI_f (fun q => absurd ((rngN (by omega)).mpr q).2 (Int32.not_le.mpr e))]; exact c01_0 w
    · rw [if_neg e, bI_t ((rngN (by omega)).mp ⟨(le0 i).mpr i0, Int32.not_lt.mp e⟩)]; exact c01_1 w
theorem C_set {C : Cl} {x m : Wd} (h : RelC C x m) (v : Int32) (i : Int32) (y : Int64) : E2 (fX7_set 0 v i y x) (fX8_set 0 v i y m) := by
  obtain ⟨⟨hs, hm, hI, hx, hxm⟩, -⟩ := id h
  have hP : cP C ≤ 6 := hI.1.1
  have hG : cG C ≤ 8 := hI.1.2
  have hc := hs.cl (b := 3) (Or.inl rfl)
  obtain ⟨a1, a2, a3, a4, a5, a6, a7, a8, a9, a10⟩ := hc.B
  obtain ⟨t1, t2, t3, t4, t5, t6, t7, t8, t9⟩ := hs.T
  have a0 := hm.O
  have gG := X0_hasGarment hc (n := cG C) hx.1.2.1 (by omega)
  have gP := X0_hasPerson hc (n := cP C) hx.1.1 (by omega)
  have mG := X8_isGarment hm (n := cG C) hxm.1.2.1 (by omega)
  have mP := X8_isOne hm (n := cP C) hxm.1.1 (by omega)
  obtain ⟨e1, e2, e3⟩ := hm.a1
  obtain ⟨f1, f2, f3⟩ := hm.a2
  obtain ⟨g1, g2, g3⟩ := hm.a3
  unfold fX7_set fX8_set
  rcases rowT h v with ⟨s, k, l, h8, rfl, hr, w1, w2⟩ | ⟨c, j, w1, w2, w3, w4, w5, w6, w7⟩
  · obtain ⟨s1, s2, s3, s4, s5⟩ := hs.S h8
    obtain ⟨b1, b2⟩ := inb8 h8
    obtain ⟨⟨k4, l1⟩, r1, r2, r3, r4, r5⟩ := id hr
    simp only [chk_t t1, chk_t a0, w1, w2, ob_s, if_true, if_pos (show (0 : Int32) ≤ 0 by decide), t2, chk_t t6, t7, chk_t b1, b2, s1, chk_t s2, X6_spans1 s2 r3 l1, f1, chk_t f2, f3, r4, X8_within, iteN (show l < 2147483648 by omega), ob_eta]
    by_cases ei : isN i l
    · obtain ⟨j, hj, rfl⟩ := isN_ex ei
      have ek : nI (100 + k) - 100 = nI k := by
        rw [show (100 : Int32) = nI 100 from rfl, pk_sub (by omega)]
        exact congrArg nI (by omega)
      unfold fX6_put fX6_put_b77 fX8_set_b102
      simp only [bI_t ei, if_neg n10, chk_t s2, r2, ek, s3, ob_s, chk_t s4, s5, chk_t (inb_nI (show j < 160 by omega) (by decide)), nI_clamp (show j < 2 ^ 31 by omega), bnd_e, e1, chk_t e2, e3, r1, g1, chk_t g2, g3, show (160 : Int32) * nI s = nI (160 * s) from nI_mul 160 s, nI_add, chk_t (inb_nI (show 160 * s + j < 1280 by omega) (by decide)), nI_clamp (show 160 * s + j < 2 ^ 31 by omega), eqL0 (show k < 2147483648 by omega), eqL1 (show k < 2147483648 by omega), eqL2 (show k < 2147483648 by omega)]
      by_cases k0 : k = 0
      · simp only [if_pos k0, ob_s, chk_t b1]
        exact E2_eq (h.put h8 (show j < 160 by omega) _)
      · simp only [if_neg k0]
        by_cases k1 : k = 1
        · simp only [if_pos k1, ob_s, chk_t b1]
          exact E2_eq (h.put h8 (show j < 160 by omega) _)
        · simp only [if_neg k1]
          by_cases k2 : k = 2
          · simp only [if_pos k2, ob_s, chk_t b1]
            exact E2_eq (h.put h8 (show j < 160 by omega) _)
          · simp only [if_neg k2, ob_s, chk_t b1]
            exact E2_eq (h.put h8 (show j < 160 by omega) _)
    · simp only [bI_f ei, if_true]
      exact h.r5
  · simp only [chk_t t1, chk_t a0, w1, w2, ob_s, if_neg w3, if_neg w4, ob_eta]
    exact h.r w5 w6 w7
/-- what a shelf holds changes -/
theorem RelC.hold {C : Cl} {x m x' m' : Wd} (h : RelC C x m) (s : Nat) (hf : Fr (fun a i => a = 135 + 2 * s ∧ (i = 1 ∨ i = 2)) x x') (hg : Fr (fun a i => (a = 1 ∨ a = 2) ∧ i = s) m m') (h8 : s < 8) (hn : wI x' (135 + 2 * s) 2 = wI m' 1 s) (hv : wI m' 1 s = -1 ∨ ∃ g, g < cG C ∧ wI m' 1 s = nI g) : Rel x' m' := by
  obtain ⟨⟨r1, r2, r3, r4, r5⟩, r6, r7, r8, r9, r10⟩ := h
  refine ⟨C, ⟨hf.shx r1, hg.shm r2, r3, r4.fr r3 hf (fun a i q => by omega), r5.fr hg (fun a i q => by omega)⟩, ?_, fun t h8 => ?_, fun i h1 h2 => ?_, ?_, ?_⟩
  · unfold ImE
    rw [hf.at (by omega), hg.at (by omega)]
    rcases r6 with r6 | ⟨r6, D, v, q1, q2, q3, q4⟩
    · exact Or.inl r6
    · refine Or.inr ⟨r6, D, v, q1, q2.fr q1 hf (fun a i q => by omega), ?_, q4⟩
      have e : wI m' 13 = wI m 13 := funext fun i => hg.at (by omega)
      rw [e]
      exact q3
  · by_cases e : t = s
    · subst e
      exact ⟨hn, hv.imp id Or.inl⟩
    · unfold ShE
      rw [hf.at (by omega), hf.at (by omega), hg.at (by omega), hg.at (by omega), hf.L, hg.L]
      exact r7 t h8
  · rw [hf.at (by omega), hg.at (by omega)]
    exact r8 i h1 h2
  · rw [hf.at (by omega), hg.at (by omega)]
    exact r9
  · obtain ⟨t, t1, t2, t3, t4⟩ := r10
    refine ⟨t, t1, ?_, ?_, fun i h1 h2 => ?_⟩
    · rw [hf.at (by omega)]; exact t2
    · rw [hg.at (by omega)]; exact t3
    · rw [hf.at (by omega), hg.at (by omega)]; exact t4 i h1 h2
theorem C_show {C : Cl} {x m : Wd} (h : RelC C x m) (v : Int32) (g : Int32) : E2 (fX7_show 0 v g x) (fX8_show 0 v g m) := by
  obtain ⟨⟨hs, hm, hI, hx, hxm⟩, -⟩ := id h
  have hP : cP C ≤ 6 := hI.1.1
  have hG : cG C ≤ 8 := hI.1.2
  have hc := hs.cl (b := 3) (Or.inl rfl)
  obtain ⟨a1, a2, a3, a4, a5, a6, a7, a8, a9, a10⟩ := hc.B
  obtain ⟨t1, t2, t3, t4, t5, t6, t7, t8, t9⟩ := hs.T
  have a0 := hm.O
  have gG := X0_hasGarment hc (n := cG C) hx.1.2.1 (by omega)
  have gP := X0_hasPerson hc (n := cP C) hx.1.1 (by omega)
  have mG := X8_isGarment hm (n := cG C) hxm.1.2.1 (by omega)
  have mP := X8_isOne hm (n := cP C) hxm.1.1 (by omega)
  obtain ⟨e1, e2, e3⟩ := hm.a1
  unfold fX7_show fX8_show fX7_show_b23 fX7_show_b29 fX8_show_b23 fX8_show_b29 fX8_show_b46
  simp only [chk_t t1, t2, t3, t4, t5, ob_s, chk_t a1, chk_t a0, gG, gP, mG, mP, ob_eta, X7_isShelf, W8_7]
  by_cases e : isN v 8
  · obtain ⟨s, h8, rfl⟩ := isN_ex e
    obtain ⟨s1, s2, s3, s4, s5⟩ := hs.S h8
    obtain ⟨b1, b2⟩ := inb8 h8
    unfold fX6_holdNothing fX6_holdGarment
    simp only [bI_t e, if_neg n10, chk_t t6, t7, chk_t b1, b2, s1, ob_s, chk_t s2, e1, chk_t e2, e3, bnd_e, cO_s]
    by_cases eg : g = -1
    · simp only [if_pos eg]
      refine E2_eq (h.hold s ((Fr_sI _ ⟨rfl, Or.inr rfl⟩).sI _ ⟨rfl, Or.inl rfl⟩) (Fr_sI _ ⟨Or.inl rfl, rfl⟩) h8 ?_ ?_)
      · rw [wI_n (by omega), wI_e, wI_e, eg]
      · rw [wI_e]
        exact Or.inl eg
    · simp only [if_neg eg]
      by_cases e5 : isN g (cG C)
      · simp only [bI_t e5, if_neg n10]
        refine E2_eq (h.hold s ((Fr_sI _ ⟨rfl, Or.inr rfl⟩).sI _ ⟨rfl, Or.inl rfl⟩) (Fr_sI _ ⟨Or.inl rfl, rfl⟩) h8 ?_ ?_)
        · rw [wI_n (by omega), wI_e, wI_e]
        · rw [wI_e]
          obtain ⟨k, hk, rfl⟩ := isN_ex e5
          exact Or.inr ⟨k, hk, rfl⟩
      · simp only [bI_f e5, if_true]
        exact h.r1
  · simp only [bI_f e, if_true]
    exact h.r1
theorem C_says {C : Cl} {x m : Wd} (h : RelC C x m) (v : Int32) (k : Int32) : E2 (fX7_says 0 v k x) (fX8_says 0 v k m) := by
  obtain ⟨⟨hs, hm, hI, hx, hxm⟩, -⟩ := id h
  have hP : cP C ≤ 6 := hI.1.1
  have hG : cG C ≤ 8 := hI.1.2
  have hc := hs.cl (b := 3) (Or.inl rfl)
  obtain ⟨a1, a2, a3, a4, a5, a6, a7, a8, a9, a10⟩ := hc.B
  obtain ⟨t1, t2, t3, t4, t5, t6, t7, t8, t9⟩ := hs.T
  have a0 := hm.O
  have gG := X0_hasGarment hc (n := cG C) hx.1.2.1 (by omega)
  have gP := X0_hasPerson hc (n := cP C) hx.1.1 (by omega)
  have mG := X8_isGarment hm (n := cG C) hxm.1.2.1 (by omega)
  have mP := X8_isOne hm (n := cP C) hxm.1.1 (by omega)
  obtain ⟨e1, e2, e3⟩ := hm.a1
  obtain ⟨f1, f2, f3⟩ := hm.a6
  unfold fX7_says fX8_says fX7_says_b14 fX7_says_b76 fX8_says_b20 fX8_says_b58
  simp only [chk_t t1, t2, t3, t4, t5, ob_s, chk_t a1, chk_t a0, gG, gP, mG, mP, ob_eta, X7_isShelf, W8_7, X7_isKind, W8_6]
  by_cases e : isN v 8
  · obtain ⟨s, h8, rfl⟩ := isN_ex e
    obtain ⟨s1, s2, s3, s4, s5⟩ := hs.S h8
    obtain ⟨b1, b2⟩ := inb8 h8
    simp only [bI_t e, if_neg n10]
    by_cases ek : isN k 7
    · obtain ⟨k, hk, rfl⟩ := isN_ex ek
      simp only [bI_t ek, if_neg n10, chk_t t6, t7, chk_t b1, b2, s1, ob_s, chk_t s2, e1, chk_t e2, e3, bnd_e]
      rcases h.sh h8 with ⟨q1, q2⟩ | ⟨g, q0, q1, q2⟩ | ⟨j, l, hr⟩
      · unfold fX8_says_b65
        simp only [chk_t t1, t2, t3, t4, t5, chk_t a1, chk_t a0, ob_eta, chk_t t6, t7, chk_t b1, b2, s1, chk_t s2, gG, X6_holdsN s2 _ q2, ob_s, bI_T, if_neg n10, q1, if_pos (show (-1 : Int32) < 0 by decide), if_neg (show ¬ (0 : Int32) ≤ -1 by decide), chk_t a0, ob_eta]
        exact h.r3
      · obtain ⟨p1, p2, p3, p4, p5, p6, p7, p8, p9, p10⟩ := hc.G (show g < 8 by omega)
        obtain ⟨d1, d2⟩ := inb8 (show g < 8 by omega)
        have k6 := (hI.2.2 g q0).1.1
        have hgN : isN (nI g) (cG C) := isN_nI q0 (by omega)
        simp only [chk_t t1, t2, t3, t4, t5, chk_t a1, chk_t a0, ob_eta, chk_t t6, t7, chk_t b1, b2, s1, chk_t s2, gG, X6_holdsN s2 _ q2, ob_s, bI_f (nI_m1 (show g < 2147483648 by omega)), if_true, q2, bI_t hgN, if_neg n10, a3, chk_t a7, a8, chk_t p1, p2, p3, chk_t p4, X2_isA p4 (hx.2.2 g q0).1.1 (by omega) hk, q1, if_neg (nI_pos (show g < 2147483648 by omega)), X8_isRow hm h8 _ q1, bI_f (not_not_intro (lt100 (show g < 100 by omega))), f1, chk_t f2, f3, chk_t d1, d2, (hxm.2.2 g q0).1.1, X8_isUnder m _ _ (show cKd C g < 7 by omega) hk]
        cases unT (cKd C g) k with
        | false =>
          simp only [chk_t t1, t2, t3, t4, t5, chk_t a1, chk_t a0, ob_eta, chk_t t6, t7, chk_t b1, b2, s1, chk_t s2, if_neg Bool.false_ne_true, if_true]
          exact h.r2
        | true =>
          have hh := X2_countHabits (hc.2.2 g (by omega)).2
          have hct : cntN (fun i => decide (¬ wI x (3 + 16 + 3 * g + 1) i = 0)) 12 = hbS C g := by
            refine cntN_congr 12 (fun i hi => ?_)
            have e1 : wI x (3 + 16 + 3 * g + 1) i = nI (cHb C g i) := ((hx.2.2 g q0).2 i hi).1
            have l1 := ((hI.2.2 g q0).2 i hi).1
            have e2 : (wI x (3 + 16 + 3 * g + 1) i = 0) = (cHb C g i = 0) := by rw [e1]; exact eqL0 (by omega)
            simp only [e2]
          rw [hct] at hh
          have hh' : fX2_countHabits (gA 3 g) x = some (nI (hbS C g), x) := hh
          have st := X2_step p4 (hx.2.2 g q0).1.1 (show cKd C g < 7 by omega)
          have sm : fX8_step 0 (nI g) 0 m = some (nI (smT (cKd C g) 0), m) := X8_step (hb := 0) hm (show g < 8 by omega) (hxm.2.2 g q0).1.1 (by omega) (by decide)
          have sms : smT (cKd C g) 0 = spT (cKd C g) := if_neg (fun q => q.2 rfl)
          rw [sms] at sm
          unfold fX7_saying fX7_saying_b48 fX7_saying_b57 fX8_says_b65 fX8_says_b142 fX8_says_b126
          simp only [if_true, if_neg n10, chk_t t1, t4, ob_s, chk_t a1, a3, chk_t a7, a8, chk_t p1, p2, p3, if_pos (nneg g (by omega)), chk_t a0, chk_t p4, hh', st, sm, X0_hoursToGo hc hx hI q0, X8_saysL hm hxm hI q0, X8_habits hm hxm hI q0, eqL0 (show k < 2147483648 by omega), eqL1 (show k < 2147483648 by omega), eqL2 (show k < 2147483648 by omega), eqL3 (show k < 2147483648 by omega), eqL4 (show k < 2147483648 by omega), eqL5 (show k < 2147483648 by omega), eqL6 (show k < 2147483648 by omega)]
          rcases (show k = 0 ∨ k = 1 ∨ k = 2 ∨ k = 3 ∨ k = 4 ∨ k = 5 ∨ k = 6 by omega) with q | q | q | q | q | q | q <;> subst q <;> exact E2_eq ⟨C, h⟩
      · obtain ⟨⟨k4, l1⟩, r1, r2, r3, r4, r5⟩ := id hr
        have ng : ¬ isN (nI (100 + j)) (cG C) := fun q => by
          have := q.2
          rw [nI_clamp (by omega)] at this
          omega
        simp only [chk_t t1, t2, t3, t4, t5, chk_t a1, chk_t a0, ob_eta, chk_t t6, t7, chk_t b1, b2, s1, chk_t s2, gG, X6_holdsN s2 _ r2, ob_s, bI_f (nI_m1 (show 100 + j < 2147483648 by omega)), if_true, r2, bI_f ng, r1, if_neg (nI_pos (show 100 + j < 2147483648 by omega)), X8_isRow hm h8 _ r1, bI_t (nlt100 j k4), if_neg n10]
        exact h.r2
    · simp only [bI_f ek, if_true]
      exact h.r1
  · simp only [bI_f e, if_true]
    exact h.r1
