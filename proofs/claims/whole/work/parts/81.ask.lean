/-! calls that only ask -/
theorem W8_7 (v : Int32) (w : Wd) : fX8_within v 0 7 w = some (bI (isN v 8), w) := by rw [X8_within, show (7 : Int32) = nI 8 - 1 from rfl, iteN (by decide)]
theorem W8_6 (v : Int32) (w : Wd) : fX8_within v 0 6 w = some (bI (isN v 7), w) := by rw [X8_within, show (6 : Int32) = nI 7 - 1 from rfl, iteN (by decide)]
theorem it1 (v : Int32) : (if 0 ≤ v ∧ v ≤ 1 then (1 : Int32) else 0) = bI (isN v 2) := iteN (n := 2) (by decide)
theorem W8_1 (v : Int32) (w : Wd) : fX8_within v 0 1 w = some (bI (isN v 2), w) := by rw [X8_within, it1]
theorem W8_3 (v : Int32) (w : Wd) : fX8_within v 0 3 w = some (bI (isN v 4), w) := by rw [X8_within, show (3 : Int32) = nI 4 - 1 from rfl, iteN (by decide)]
theorem W7_3 (v : Int32) (w : Wd) : fX7_isWithin v 0 3 w = some (bI (isN v 4), w) := by rw [X7_isWithin, show (3 : Int32) = nI 4 - 1 from rfl, iteN (by decide)]
theorem W7_1 (v : Int32) (w : Wd) : fX7_isWithin v 0 1 w = some (bI (isN v 2), w) := by rw [X7_isWithin, it1]
theorem W7_9 (v : Int32) (w : Wd) : fX7_isWithin v 0 9 w = some (bI (isN v 10), w) := by rw [X7_isWithin, show (9 : Int32) = nI 10 - 1 from rfl, iteN (by decide)]
theorem isN_ne {v : Int32} {n : Nat} (h : ¬ isN v n) : bI (isN v n) = 0 := bI_f h
theorem X8_homeN {w : Wd} {C : Cl} (hc : ShM w) (hx : IsM w C) (hI : CI C) {g : Nat} (hg : g < cG C) : fX8_home_L22 0 (nI g) (-1) (0, w) = some (-1, w) := by
  have h := X8_homeL hc hx hI hg (x := -1)
  generalize fX8_home_L22 0 (nI g) (-1) (0, w) = y at *
  rw [h, if_neg (fun q => q.2 rfl)]
theorem X8_homeQ {w : Wd} {C : Cl} (hc : ShM w) (hx : IsM w C) (hI : CI C) {g q : Nat} (hg : g < cG C) (hq : q < 2147483648) : fX8_home_L22 0 (nI g) (nI q) (0, w) = some (hmR C g q, w) := by
  have h := X8_homeL hc hx hI hg (x := nI q)
  have hn := nI_m1 hq
  generalize fX8_home_L22 0 (nI g) (nI q) (0, w) = y at *
  rw [h]
  unfold hmR
  by_cases e : hmS C g < 12
  · rw [if_pos e, if_pos ⟨e, hn⟩]
  · rw [if_neg e, if_neg (fun r => e r.1)]
theorem C_wins {C : Cl} {x m : Wd} (h : RelC C x m) (p : Int32) : E2 (fX7_wins 0 p x) (fX8_wins 0 p m) := by
  obtain ⟨⟨hs, hm, hI, hx, hxm⟩, -⟩ := id h
  have hP : cP C ≤ 6 := hI.1.1
  have hG : cG C ≤ 8 := hI.1.2
  have hc := hs.cl (b := 3) (Or.inl rfl)
  obtain ⟨a1, a2, a3, a4, a5, a6, a7, a8, a9, a10⟩ := hc.B
  obtain ⟨t1, t2, t3, t4, t5, t6, t7, t8, t9⟩ := hs.T
  have a0 := hm.O
  have gG := X0_hasGarment hc (n := cG C) hx.1.2.1 (by omega)
  have gP := X0_hasPerson hc (n := cP C) hx.1.1 (by omega)
  have mG := X8_isGarment hm (n := cG C) hxm.1.2.1 (by omega)
  have mP := X8_isOne hm (n := cP C) hxm.1.1 (by omega)
  unfold fX7_wins fX8_wins
  simp only [chk_t t1, t2, t3, t4, t5, ob_s, chk_t a1, chk_t a0, gG, gP, mG, mP, ob_eta]
  by_cases e : isN p (cP C)
  · obtain ⟨q, hq, rfl⟩ := isN_ex e
    simp only [bI_t e, if_neg n10, X7_winsL hs hx hI hq, X8_winsL hm hxm hI hq]
    exact E2_eq ⟨C, h⟩
  · simp only [bI_f e, if_true]
    exact h.r1
theorem C_like {C : Cl} {x m : Wd} (h : RelC C x m) (g : Int32) (p : Int32) : E2 (fX7_like 0 g p x) (fX8_like 0 g p m) := by
  obtain ⟨⟨hs, hm, hI, hx, hxm⟩, -⟩ := id h
  have hP : cP C ≤ 6 := hI.1.1
  have hG : cG C ≤ 8 := hI.1.2
  have hc := hs.cl (b := 3) (Or.inl rfl)
  obtain ⟨a1, a2, a3, a4, a5, a6, a7, a8, a9, a10⟩ := hc.B
  obtain ⟨t1, t2, t3, t4, t5, t6, t7, t8, t9⟩ := hs.T
  have a0 := hm.O
  have gG := X0_hasGarment hc (n := cG C) hx.1.2.1 (by omega)
  have gP := X0_hasPerson hc (n := cP C) hx.1.1 (by omega)
  have mG := X8_isGarment hm (n := cG C) hxm.1.2.1 (by omega)
  have mP := X8_isOne hm (n := cP C) hxm.1.1 (by omega)
  unfold fX7_like fX8_like fX7_like_b22 fX8_like_b25 fX8_like_b30
  simp only [chk_t t1, t2, t3, t4, t5, ob_s, chk_t a1, chk_t a0, gG, gP, mG, mP, ob_eta]
  by_cases e : isN g (cG C)
  · obtain ⟨k, hk, rfl⟩ := isN_ex e
    simp only [bI_t e, if_neg n10]
    by_cases e2 : isN p (cP C)
    · obtain ⟨q, hq, rfl⟩ := isN_ex e2
      simp only [bI_t e2, if_neg n10, X0_likeness hc hx hI hk hq, X8_likeOf hm hxm hI hk hq, ob_s]
      exact E2_eq ⟨C, h⟩
    · simp only [bI_f e2, if_true]
      exact h.r1
  · simp only [bI_f e, if_true]
    exact h.r1
theorem C_whose {C : Cl} {x m : Wd} (h : RelC C x m) (g : Int32) : E2 (fX7_whose 0 g x) (fX8_whose 0 g m) := by
  obtain ⟨⟨hs, hm, hI, hx, hxm⟩, -⟩ := id h
  have hP : cP C ≤ 6 := hI.1.1
  have hG : cG C ≤ 8 := hI.1.2
  have hc := hs.cl (b := 3) (Or.inl rfl)
  obtain ⟨a1, a2, a3, a4, a5, a6, a7, a8, a9, a10⟩ := hc.B
  obtain ⟨t1, t2, t3, t4, t5, t6, t7, t8, t9⟩ := hs.T
  have a0 := hm.O
  have gG := X0_hasGarment hc (n := cG C) hx.1.2.1 (by omega)
  have gP := X0_hasPerson hc (n := cP C) hx.1.1 (by omega)
  have mG := X8_isGarment hm (n := cG C) hxm.1.2.1 (by omega)
  have mP := X8_isOne hm (n := cP C) hxm.1.1 (by omega)
  unfold fX7_whose fX8_whose fX7_whose_b27 fX8_whose_b21
  simp only [chk_t t1, t2, t3, t4, t5, ob_s, chk_t a1, chk_t a0, gG, gP, mG, mP, ob_eta]
  by_cases e : isN g (cG C)
  · obtain ⟨k, hk, rfl⟩ := isN_ex e
    simp only [bI_t e, if_neg n10, X0_mostLike hc hx hI hk, X8_whoseOf hm hxm hI hk, ob_s]
    exact E2_eq ⟨C, h⟩
  · simp only [bI_f e, if_true]
    exact h.l1
theorem C_watch {C : Cl} {x m : Wd} (h : RelC C x m) : E2 (fX7_watch 0  x) (fX8_watch 0  m) := by
  obtain ⟨⟨hs, hm, hI, hx, hxm⟩, -⟩ := id h
  have hP : cP C ≤ 6 := hI.1.1
  have hG : cG C ≤ 8 := hI.1.2
  have hc := hs.cl (b := 3) (Or.inl rfl)
  obtain ⟨a1, a2, a3, a4, a5, a6, a7, a8, a9, a10⟩ := hc.B
  obtain ⟨t1, t2, t3, t4, t5, t6, t7, t8, t9⟩ := hs.T
  have a0 := hm.O
  have gG := X0_hasGarment hc (n := cG C) hx.1.2.1 (by omega)
  have gP := X0_hasPerson hc (n := cP C) hx.1.1 (by omega)
  have mG := X8_isGarment hm (n := cG C) hxm.1.2.1 (by omega)
  have mP := X8_isOne hm (n := cP C) hxm.1.1 (by omega)
  unfold fX7_watch fX8_watch
  simp only [chk_t t1, t2, t3, t4, t5, ob_s, chk_t a1, chk_t a0, gG, gP, mG, mP, ob_eta, hx.1.1, hxm.1.1, eqL0 (show cP C < 2147483648 by omega)]
  by_cases e : cP C = 0
  · simp only [if_pos e]
    exact h.r5
  · simp only [if_neg e, X7_watchL hs hx hI, X8_watchL hm hxm hI]
    exact E2_eq ⟨C, h⟩
theorem C_two {C : Cl} {x m : Wd} (h : RelC C x m) (g : Int32) (k : Int32) (v : Int32) : E2 (fX7_two 0 g k v x) (fX8_two 0 g k v m) := by
  obtain ⟨⟨hs, hm, hI, hx, hxm⟩, -⟩ := id h
  have hP : cP C ≤ 6 := hI.1.1
  have hG : cG C ≤ 8 := hI.1.2
  have hc := hs.cl (b := 3) (Or.inl rfl)
  obtain ⟨a1, a2, a3, a4, a5, a6, a7, a8, a9, a10⟩ := hc.B
  obtain ⟨t1, t2, t3, t4, t5, t6, t7, t8, t9⟩ := hs.T
  have a0 := hm.O
  have gG := X0_hasGarment hc (n := cG C) hx.1.2.1 (by omega)
  have gP := X0_hasPerson hc (n := cP C) hx.1.1 (by omega)
  have mG := X8_isGarment hm (n := cG C) hxm.1.2.1 (by omega)
  have mP := X8_isOne hm (n := cP C) hxm.1.1 (by omega)
  unfold fX7_two fX8_two fX7_two_b22 fX8_two_b16 fX7_two_b81
  simp only [chk_t t1, t2, t3, t4, t5, ob_s, chk_t a1, chk_t a0, gG, gP, mG, mP, ob_eta, W7_1, W8_1]
  by_cases e : isN g (cG C)
  · obtain ⟨i, hi, rfl⟩ := isN_ex e
    simp only [bI_t e, if_neg n10]
    by_cases e2 : isN k (cG C)
    · obtain ⟨j, hj, rfl⟩ := isN_ex e2
      simp only [bI_t e2, if_neg n10]
      by_cases e3 : isN v 2
      · simp only [bI_t e3, if_neg n10, nI_eq_iff (show i < 2147483648 by omega) (show j < 2147483648 by omega)]
        by_cases e4 : i = j
        · simp only [if_pos e4]
          exact h.r6
        · simp only [if_neg e4]
          by_cases e5 : v = 0
          · subst e5
            simp only [if_true, X0_hoursInStrife hc hx hI hi hj, X8_twoL0 hm hxm hI hi hj, ob_s]
            exact E2_eq ⟨C, h⟩
          · simp only [if_neg e5, X0_habitsPatched hc hx hI hi hj, X8_twoL1 hm hxm hI hi hj e5, ob_s]
            exact E2_eq ⟨C, h⟩
      · simp only [bI_f e3, if_true]
        exact h.r5
    · simp only [bI_f e2, if_true]
      exact h.r1
  · simp only [bI_f e, if_true]
    exact h.r1
theorem C_alone {C : Cl} {x m : Wd} (h : RelC C x m) (t : Int32) : E2 (fX7_alone 0 t x) (fX8_alone 0 t m) := by
  obtain ⟨⟨hs, hm, hI, hx, hxm⟩, -⟩ := id h
  have hP : cP C ≤ 6 := hI.1.1
  have hG : cG C ≤ 8 := hI.1.2
  have hc := hs.cl (b := 3) (Or.inl rfl)
  obtain ⟨a1, a2, a3, a4, a5, a6, a7, a8, a9, a10⟩ := hc.B
  obtain ⟨t1, t2, t3, t4, t5, t6, t7, t8, t9⟩ := hs.T
  have a0 := hm.O
  have gG := X0_hasGarment hc (n := cG C) hx.1.2.1 (by omega)
  have gP := X0_hasPerson hc (n := cP C) hx.1.1 (by omega)
  have mG := X8_isGarment hm (n := cG C) hxm.1.2.1 (by omega)
  have mP := X8_isOne hm (n := cP C) hxm.1.1 (by omega)
  unfold fX7_alone fX8_alone
  simp only [chk_t t1, t2, t3, t4, t5, ob_s, chk_t a1, chk_t a0, gG, gP, mG, mP, ob_eta, X7_isHour, X8_isHour]
  by_cases e : isN t 12
  · obtain ⟨i, hi, rfl⟩ := isN_ex e
    simp only [bI_t e, if_neg n10, X7_aloneL hs hx hI hi, X8_aloneL hm hxm hI hi]
    exact E2_eq ⟨C, h⟩
  · simp only [bI_f e, if_true]
    exact h.r6
theorem C_home {C : Cl} {x m : Wd} (h : RelC C x m) (g : Int32) : E2 (fX7_home 0 g x) (fX8_home 0 g m) := by
  obtain ⟨⟨hs, hm, hI, hx, hxm⟩, -⟩ := id h
  have hP : cP C ≤ 6 := hI.1.1
  have hG : cG C ≤ 8 := hI.1.2
  have hc := hs.cl (b := 3) (Or.inl rfl)
  obtain ⟨a1, a2, a3, a4, a5, a6, a7, a8, a9, a10⟩ := hc.B
  obtain ⟨t1, t2, t3, t4, t5, t6, t7, t8, t9⟩ := hs.T
  have a0 := hm.O
  have gG := X0_hasGarment hc (n := cG C) hx.1.2.1 (by omega)
  have gP := X0_hasPerson hc (n := cP C) hx.1.1 (by omega)
  have mG := X8_isGarment hm (n := cG C) hxm.1.2.1 (by omega)
  have mP := X8_isOne hm (n := cP C) hxm.1.1 (by omega)
  unfold fX7_home fX8_home
  simp only [chk_t t1, t2, t3, t4, t5, ob_s, chk_t a1, chk_t a0, gG, gP, mG, mP, ob_eta]
  by_cases e : isN g (cG C)
  · obtain ⟨k, hk, rfl⟩ := isN_ex e
    have hw := whS_le C k (cP C)
    rw [bI_t e, if_neg n10, if_neg n10, X0_mostLike hc hx hI hk, X8_whoseOf hm hxm hI hk, ob_s, ob_s]
    dsimp only
    by_cases e2 : whS C k (cP C) = 0
    · rw [e2, wv_0, X8_homeN hm hxm hI hk, if_pos rfl]
      exact E2_eq ⟨C, h⟩
    · obtain ⟨q, hq⟩ : ∃ q, whS C k (cP C) = q + 1 := ⟨whS C k (cP C) - 1, by omega⟩
      rw [hq, wv_s, X7_homeL hs hx hI hk, X8_homeQ hm hxm hI hk (show q < 2147483648 by omega), if_neg (nI_m1 (show q < 2147483648 by omega))]
      exact E2_eq ⟨C, h⟩
  · simp only [bI_f e, if_true]
    exact h.l1
theorem C_cure {C : Cl} {x m : Wd} (h : RelC C x m) (p : Int32) (v : Int32) : E2 (fX7_cure 0 p v x) (fX8_cure 0 p v m) := by
  obtain ⟨⟨hs, hm, hI, hx, hxm⟩, -⟩ := id h
  have hP : cP C ≤ 6 := hI.1.1
  have hG : cG C ≤ 8 := hI.1.2
  have hc := hs.cl (b := 3) (Or.inl rfl)
  obtain ⟨a1, a2, a3, a4, a5, a6, a7, a8, a9, a10⟩ := hc.B
  obtain ⟨t1, t2, t3, t4, t5, t6, t7, t8, t9⟩ := hs.T
  have a0 := hm.O
  have gG := X0_hasGarment hc (n := cG C) hx.1.2.1 (by omega)
  have gP := X0_hasPerson hc (n := cP C) hx.1.1 (by omega)
  have mG := X8_isGarment hm (n := cG C) hxm.1.2.1 (by omega)
  have mP := X8_isOne hm (n := cP C) hxm.1.1 (by omega)
  unfold fX7_cure fX8_cure fX7_cure_b56
  simp only [chk_t t1, t2, t3, t4, t5, ob_s, chk_t a1, chk_t a0, gG, gP, mG, mP, ob_eta, W7_1, W8_1]
  by_cases e : isN p (cP C)
  · obtain ⟨q, hq, rfl⟩ := isN_ex e
    simp only [bI_t e, if_neg n10]
    by_cases e2 : isN v 2
    · simp only [bI_t e2, if_neg n10]
      by_cases e3 : v = 0
      · obtain ⟨c1, c2, c3⟩ := hm.a4
        obtain ⟨b1, b2⟩ := inb6 (show q < 6 by omega)
        simp only [if_pos e3, X0_leastWill hc hx hI hq, c1, ob_s, chk_t c2, c3, chk_t b1, b2, bnd_e, (hxm.2.1 q hq).1, X8_cureW hm hxm hI hq]
        exact E2_eq ⟨C, h⟩
      · simp only [if_neg e3, X0_fewestOff hc hx hI hq, X8_cureM hm hxm hI hq, ob_s]
        exact E2_eq ⟨C, h⟩
    · simp only [bI_f e2, if_true]
      exact h.l5
  · simp only [bI_f e, if_true]
    exact h.l1
theorem C_fault {C : Cl} {x m : Wd} (h : RelC C x m) : E2 (fX7_fault 0  x) (fX8_fault 0  m) := by
  obtain ⟨⟨hs, hm, hI, hx, hxm⟩, -⟩ := id h
  have hP : cP C ≤ 6 := hI.1.1
  have hG : cG C ≤ 8 := hI.1.2
  have hc := hs.cl (b := 3) (Or.inl rfl)
  obtain ⟨a1, a2, a3, a4, a5, a6, a7, a8, a9, a10⟩ := hc.B
  obtain ⟨t1, t2, t3, t4, t5, t6, t7, t8, t9⟩ := hs.T
  have a0 := hm.O
  have gG := X0_hasGarment hc (n := cG C) hx.1.2.1 (by omega)
  have gP := X0_hasPerson hc (n := cP C) hx.1.1 (by omega)
  have mG := X8_isGarment hm (n := cG C) hxm.1.2.1 (by omega)
  have mP := X8_isOne hm (n := cP C) hxm.1.1 (by omega)
  obtain ⟨-, -, -, -, r9, -⟩ := id h
  unfold fX7_fault fX8_fault
  simp only [chk_t t1, t2, t3, t4, t5, ob_s, chk_t a1, chk_t a0, gG, gP, mG, mP, ob_eta, r9]
  exact E2_eq ⟨C, h⟩
theorem sb10 {h : Nat} (q : 10 ≤ h) : nI h - 10 = nI (h - 10) := pk_sub q
theorem sb30 {h : Nat} (q : 30 ≤ h) : nI h - 30 = nI (h - 30) := pk_sub q
theorem sb50 {h : Nat} (q : 50 ≤ h) : nI h - 50 = nI (h - 50) := pk_sub q
theorem C_garmentOf {C : Cl} {x m : Wd} (h : RelC C x m) (g : Int32) (v : Int32) : E2 (fX7_garmentOf 0 g v x) (fX8_garmentOf 0 g v m) := by
  obtain ⟨⟨hs, hm, hI, hx, hxm⟩, -⟩ := id h
  have hP : cP C ≤ 6 := hI.1.1
  have hG : cG C ≤ 8 := hI.1.2
  have hc := hs.cl (b := 3) (Or.inl rfl)
  obtain ⟨a1, a2, a3, a4, a5, a6, a7, a8, a9, a10⟩ := hc.B
  obtain ⟨t1, t2, t3, t4, t5, t6, t7, t8, t9⟩ := hs.T
  have a0 := hm.O
  have gG := X0_hasGarment hc (n := cG C) hx.1.2.1 (by omega)
  have gP := X0_hasPerson hc (n := cP C) hx.1.1 (by omega)
  have mG := X8_isGarment hm (n := cG C) hxm.1.2.1 (by omega)
  have mP := X8_isOne hm (n := cP C) hxm.1.1 (by omega)
  unfold fX7_garmentOf fX8_garmentOf
  simp only [chk_t t1, t2, t3, t4, t5, ob_s, chk_t a1, chk_t a0, gG, gP, mG, mP, ob_eta, X7_isWithin, X8_within]
  by_cases e : isN g (cG C)
  · obtain ⟨k, hk, rfl⟩ := isN_ex e
    obtain ⟨p1, p2, p3, p4, p5, p6, p7, p8, p9, p10⟩ := hc.G (show k < 8 by omega)
    obtain ⟨b1, b2⟩ := inb8 (show k < 8 by omega)
    obtain ⟨⟨x1, x2, x3⟩, x4⟩ := hx.2.2 k hk
    obtain ⟨⟨y1, y2, y3⟩, y4⟩ := hxm.2.2 k hk
    simp only [bI_t e, if_neg n10, a3, ob_s, chk_t a7, a8, chk_t p1, p2, p3, chk_t p4, x1, x2, x3]
    by_cases r1 : (10 : Int32) ≤ v ∧ v ≤ 21
    · obtain ⟨i, i1, i2, rfl⟩ := rgN (a := 10) (b := 21) (by decide) r1 (by decide)
      obtain ⟨n1, n2⟩ := inb12 (show i - 10 < 12 by omega)
      obtain ⟨m1, m2⟩ := inb96 (show k < 8 by omega) (show i - 10 < 12 by omega)
      obtain ⟨c1, c2, c3⟩ := hm.a9
      have ei : (12 : Int32) * nI k + nI i - 10 = nI (12 * k + (i - 10)) := by
        rw [tw_mul_nI, nI_add, show (10 : Int32) = nI 10 from rfl, pk_sub (by omega)]
        exact congrArg nI (by omega)
      simp only [eqL0 (show i < 2147483648 by omega), eqL1 (show i < 2147483648 by omega), eqL2 (show i < 2147483648 by omega), if_neg (show ¬ i = 0 by omega), if_neg (show ¬ i = 1 by omega), if_neg (show ¬ i = 2 by omega), if_pos r1, if_neg n10, p5, ob_s, chk_t p7, p8, sb10 i1, chk_t n1, n2, (x4 (i - 10) (by omega)).1, c1, chk_t c2, c3, ei, chk_t m1, m2, (y4 (i - 10) (by omega)).1]
      exact E2_eq ⟨C, h⟩
    · simp only [if_neg r1, if_true]
      by_cases r2 : (30 : Int32) ≤ v ∧ v ≤ 41
      · obtain ⟨i, i1, i2, rfl⟩ := rgN (a := 30) (b := 41) (by decide) r2 (by decide)
        obtain ⟨n1, n2⟩ := inb12 (show i - 30 < 12 by omega)
        obtain ⟨m1, m2⟩ := inb96 (show k < 8 by omega) (show i - 30 < 12 by omega)
        obtain ⟨d1, d2, d3⟩ := hm.a10
        have ei : (12 : Int32) * nI k + nI i - 30 = nI (12 * k + (i - 30)) := by
          rw [tw_mul_nI, nI_add, show (30 : Int32) = nI 30 from rfl, pk_sub (by omega)]
          exact congrArg nI (by omega)
        simp only [eqL0 (show i < 2147483648 by omega), eqL1 (show i < 2147483648 by omega), eqL2 (show i < 2147483648 by omega), if_neg (show ¬ i = 0 by omega), if_neg (show ¬ i = 1 by omega), if_neg (show ¬ i = 2 by omega), if_pos r2, if_neg n10, p6, ob_s, chk_t p9, p10, sb30 i1, chk_t n1, n2, (x4 (i - 30) (by omega)).2, d1, chk_t d2, d3, ei, chk_t m1, m2, (y4 (i - 30) (by omega)).2]
        exact E2_eq ⟨C, h⟩
      · simp only [if_neg r2, if_true]
        by_cases r3 : (50 : Int32) ≤ v ∧ v ≤ 61
        · obtain ⟨i, i1, i2, rfl⟩ := rgN (a := 50) (b := 61) (by decide) r3 (by decide)
          simp only [eqL0 (show i < 2147483648 by omega), eqL1 (show i < 2147483648 by omega), eqL2 (show i < 2147483648 by omega), if_neg (show ¬ i = 0 by omega), if_neg (show ¬ i = 1 by omega), if_neg (show ¬ i = 2 by omega), if_pos r3, if_neg n10, sb50 i1, X0_pullOf hc hx hI hk (show i - 50 < 12 by omega), X8_pull hm hxm hI hk (show i - 50 < 12 by omega)]
          exact E2_eq ⟨C, h⟩
        · obtain ⟨e1, e2, e3⟩ := hm.a6
          obtain ⟨f1, f2, f3⟩ := hm.a7
          obtain ⟨g1, g2, g3⟩ := hm.a8
          simp only [if_neg r3, if_true, e1, ob_s, chk_t e2, e3, chk_t b1, b2, f1, chk_t f2, f3, g1, chk_t g2, g3, y1, y2, y3]
          by_cases v0 : v = 0
          · simp only [if_pos v0]
            exact E2_eq ⟨C, h⟩
          · simp only [if_neg v0]
            by_cases v1 : v = 1
            · simp only [if_pos v1]
              exact E2_eq ⟨C, h⟩
            · simp only [if_neg v1]
              by_cases v2 : v = 2
              · simp only [if_pos v2]
                exact E2_eq ⟨C, h⟩
              · simp only [if_neg v2]
                exact h.r5
  · simp only [bI_f e, if_true]
    exact h.r5
theorem X8_personOfL {w : Wd} {C : Cl} (hc : ShM w) (hx : IsM w C) (hI : CI C) {p : Nat} (hp : p < cP C) : fX8_personOf_L82 0 (nI p) (0, 0, w) = some (nI (bN (fun g => decide (cWr C g = p + 1)) (cG C)), w) := by
  have a0 := hc.O
  have hG : cG C ≤ 8 := hI.1.2
  have hP : cP C ≤ 6 := hI.1.1
  obtain ⟨g1, g2, g3⟩ := hc.a8
  unfold fX8_personOf_L82
  refine it_for (fun i => (nI (bN (fun g => decide (cWr C g = p + 1)) i), nI i, w)) (cG C) (by omega) (fun i hi => ?_) ?_
  · obtain ⟨b1, b2⟩ := inb8 (show i < 8 by omega)
    have hw := (hI.2.2 i hi).1.2.2
    have hb := bN_256 (fun g => decide (cWr C g = p + 1)) (show i ≤ 8 by omega)
    unfold fX8_personOf_L82_body
    simp only [chk_t a0, hx.1.2.1, nI_le_iff (show cG C < 2147483648 by omega) (show i < 2147483648 by omega), if_neg (Nat.not_le.mpr hi), g1, ob_s, chk_t g2, g3, chk_t b1, b2, (hx.2.2 i hi).1.2.2, wv_eq (show cWr C i < 100 by omega) (show p < 100 by omega), bnd_e, or_bit i (by omega) _ hb, fX8_personOf_b109, nI_1]
    by_cases e : cWr C i = p + 1
    · rw [if_pos e, bN_s, if_pos (by simp [e])]
    · rw [if_neg e, bN_s, if_neg (by simp [e])]
  · unfold fX8_personOf_L82_body
    simp only [chk_t a0, hx.1.2.1, Int32.le_refl, if_true]
    rfl
theorem C_personOf {C : Cl} {x m : Wd} (h : RelC C x m) (p : Int32) (v : Int32) : E2 (fX7_personOf 0 p v x) (fX8_personOf 0 p v m) := by
  obtain ⟨⟨hs, hm, hI, hx, hxm⟩, -⟩ := id h
  have hP : cP C ≤ 6 := hI.1.1
  have hG : cG C ≤ 8 := hI.1.2
  have hc := hs.cl (b := 3) (Or.inl rfl)
  obtain ⟨a1, a2, a3, a4, a5, a6, a7, a8, a9, a10⟩ := hc.B
  obtain ⟨t1, t2, t3, t4, t5, t6, t7, t8, t9⟩ := hs.T
  have a0 := hm.O
  have gG := X0_hasGarment hc (n := cG C) hx.1.2.1 (by omega)
  have gP := X0_hasPerson hc (n := cP C) hx.1.1 (by omega)
  have mG := X8_isGarment hm (n := cG C) hxm.1.2.1 (by omega)
  have mP := X8_isOne hm (n := cP C) hxm.1.1 (by omega)
  unfold fX7_personOf fX8_personOf
  simp only [chk_t t1, t2, t3, t4, t5, ob_s, chk_t a1, chk_t a0, gG, gP, mG, mP, ob_eta, X7_isWithin, X8_within]
  by_cases e : isN p (cP C)
  · obtain ⟨k, hk, rfl⟩ := isN_ex e
    obtain ⟨p1, p2, p3, p4, p5, p6, p7⟩ := hc.P (show k < 6 by omega)
    obtain ⟨b1, b2⟩ := inb6 (show k < 6 by omega)
    obtain ⟨x1, x4⟩ := hx.2.1 k hk
    obtain ⟨y1, y4⟩ := hxm.2.1 k hk
    have hwb := X0_wornBy hc hx hI (show k + 1 < 100 by omega)
    rw [wv_s] at hwb
    simp only [bI_t e, if_neg n10, a2, ob_s, chk_t a5, a6, chk_t p1, p2, p3, chk_t p4, x1, hwb]
    by_cases r1 : (10 : Int32) ≤ v ∧ v ≤ 21
    · obtain ⟨i, i1, i2, rfl⟩ := rgN (a := 10) (b := 21) (by decide) r1 (by decide)
      obtain ⟨n1, n2⟩ := inb12 (show i - 10 < 12 by omega)
      obtain ⟨m1, m2⟩ := inb72 (show k < 6 by omega) (show i - 10 < 12 by omega)
      obtain ⟨c1, c2, c3⟩ := hm.a5
      have ei : (12 : Int32) * nI k + nI i - 10 = nI (12 * k + (i - 10)) := by
        rw [tw_mul_nI, nI_add, show (10 : Int32) = nI 10 from rfl, pk_sub (by omega)]
        exact congrArg nI (by omega)
      simp only [eqL0 (show i < 2147483648 by omega), eqL1 (show i < 2147483648 by omega), if_neg (show ¬ i = 0 by omega), if_neg (show ¬ i = 1 by omega), if_pos r1, if_neg n10, p5, ob_s, chk_t p6, p7, sb10 i1, chk_t n1, n2, x4 (i - 10) (by omega), c1, chk_t c2, c3, ei, chk_t m1, m2, y4 (i - 10) (by omega)]
      exact E2_eq ⟨C, h⟩
    · obtain ⟨f1, f2, f3⟩ := hm.a4
      simp only [if_neg r1, if_true, f1, ob_s, chk_t f2, f3, chk_t b1, b2, y1, X8_personOfL hm hxm hI hk]
      by_cases v0 : v = 0
      · simp only [if_pos v0]
        exact E2_eq ⟨C, h⟩
      · simp only [if_neg v0]
        by_cases v1 : v = 1
        · simp only [if_pos v1]
          exact E2_eq ⟨C, h⟩
        · simp only [if_neg v1]
          exact h.r5
  · simp only [bI_f e, if_true]
    exact h.r5
theorem C_status {C : Cl} {x m : Wd} (h : RelC C x m) (v : Int32) : E2 (fX7_status 0 v x) (fX8_status 0 v m) := by
  obtain ⟨⟨hs, hm, hI, hx, hxm⟩, -⟩ := id h
  have hP : cP C ≤ 6 := hI.1.1
  have hG : cG C ≤ 8 := hI.1.2
  have hc := hs.cl (b := 3) (Or.inl rfl)
  obtain ⟨a1, a2, a3, a4, a5, a6, a7, a8, a9, a10⟩ := hc.B
  obtain ⟨t1, t2, t3, t4, t5, t6, t7, t8, t9⟩ := hs.T
  have a0 := hm.O
  have gG := X0_hasGarment hc (n := cG C) hx.1.2.1 (by omega)
  have gP := X0_hasPerson hc (n := cP C) hx.1.1 (by omega)
  have mG := X8_isGarment hm (n := cG C) hxm.1.2.1 (by omega)
  have mP := X8_isOne hm (n := cP C) hxm.1.1 (by omega)
  obtain ⟨-, -, -, r8, -, t, q1, q2, q3, q4⟩ := id h
  obtain ⟨m1, m2, m3⟩ := hm.a11
  have tm : wR x 0 8 = some 133 ∧ isO x 133 3 := ⟨hs.R (by decide) (by decide) (fun q => by omega) (by decide +kernel), by rw [hs.1]; decide, (hs.K (n := 0) (by decide) (by decide +kernel)).1⟩
  unfold fX7_status fX8_status fX8_status_b129
  simp only [chk_t t1, t2, t3, t4, t5, ob_s, chk_t a1, chk_t a0, gG, gP, mG, mP, ob_eta, X7_isWithin, X8_within, hx.1.1, hx.1.2.1, hx.1.2.2.1, hx.1.2.2.2, hxm.1.1, hxm.1.2.1, hxm.1.2.2.1, hxm.1.2.2.2, X0_countHabits hc hx hI, X8_allHabits hm hxm hI, X0_countWorn hc hx hI, X8_statusL hm hxm hI, tm.1, chk_t tm.2, q2, q3, t3, chk_t t8, t9, m1, chk_t m2, m3]
  by_cases r1 : (11 : Int32) ≤ v ∧ v ≤ 17
  · obtain ⟨i, i1, i2, rfl⟩ := rgN (a := 11) (b := 17) (by decide) r1 (by decide)
    obtain ⟨b1, b2⟩ := inb8 (show i - 10 < 8 by omega)
    simp only [if_pos r1, if_neg n10, eqL0 (show i < 2147483648 by omega), eqL1 (show i < 2147483648 by omega), eqL2 (show i < 2147483648 by omega), eqL3 (show i < 2147483648 by omega), eqL4 (show i < 2147483648 by omega), eqL5 (show i < 2147483648 by omega), eqL6 (show i < 2147483648 by omega), if_neg (show ¬ i = 0 by omega), if_neg (show ¬ i = 1 by omega), if_neg (show ¬ i = 2 by omega), if_neg (show ¬ i = 3 by omega), if_neg (show ¬ i = 4 by omega), if_neg (show ¬ i = 5 by omega), if_neg (show ¬ i = 6 by omega), sb10 (show 10 ≤ i by omega), chk_t b1, b2, r8 (i - 10) (by omega) (by omega)]
    exact E2_eq ⟨C, h⟩
  · simp only [if_neg r1, if_true]
    by_cases v0 : v = 0
    · simp only [if_pos v0]
      exact E2_eq ⟨C, h⟩
    · simp only [if_neg v0]
      by_cases v1 : v = 1
      · simp only [if_pos v1]
        exact E2_eq ⟨C, h⟩
      · simp only [if_neg v1]
        by_cases v2 : v = 2
        · simp only [if_pos v2]
          exact E2_eq ⟨C, h⟩
        · simp only [if_neg v2]
          by_cases v3 : v = 3
          · simp only [if_pos v3]
            exact E2_eq ⟨C, h⟩
          · simp only [if_neg v3]
            by_cases v4 : v = 4
            · simp only [if_pos v4]
              exact E2_eq ⟨C, h⟩
            · simp only [if_neg v4]
              by_cases v5 : v = 5
              · simp only [if_pos v5]
                exact E2_eq ⟨C, h⟩
              · simp only [if_neg v5]
                by_cases v6 : v = 6
                · simp only [if_pos v6]
                  exact E2_eq ⟨C, h⟩
                · simp only [if_neg v6]
                  exact E2_eq ⟨C, h⟩
theorem C_washed {C : Cl} {x m : Wd} (h : RelC C x m) (g : Int32) (t : Int32) : E2 (fX7_washed 0 g t x) (fX8_washed 0 g t m) := by
  obtain ⟨⟨hs, hm, hI, hx, hxm⟩, -⟩ := id h
  have hP : cP C ≤ 6 := hI.1.1
  have hG : cG C ≤ 8 := hI.1.2
  have hc := hs.cl (b := 3) (Or.inl rfl)
  obtain ⟨a1, a2, a3, a4, a5, a6, a7, a8, a9, a10⟩ := hc.B
  obtain ⟨t1, t2, t3, t4, t5, t6, t7, t8, t9⟩ := hs.T
  have a0 := hm.O
  have gG := X0_hasGarment hc (n := cG C) hx.1.2.1 (by omega)
  have gP := X0_hasPerson hc (n := cP C) hx.1.1 (by omega)
  have mG := X8_isGarment hm (n := cG C) hxm.1.2.1 (by omega)
  have mP := X8_isOne hm (n := cP C) hxm.1.1 (by omega)
  unfold fX7_washed fX8_washed
  simp only [chk_t t1, t2, t3, t4, t5, ob_s, chk_t a1, chk_t a0, gG, gP, mG, mP, ob_eta, X7_isHour, X8_isHour]
  by_cases e : isN g (cG C)
  · obtain ⟨k, hk, rfl⟩ := isN_ex e
    obtain ⟨p1, p2, p3, p4, p5, p6, p7, p8, p9, p10⟩ := hc.G (show k < 8 by omega)
    obtain ⟨s0, s1⟩ := GaS.sp hs
    have s2 : isO x 123 2 := ⟨by have := s0.1; omega, s0.2.1⟩
    have tk := X2_take s0 (hc.2.2 k (by omega)).2 (hx.g hk) (by omega)
    obtain ⟨d1, d2, d3⟩ := hm.a10
    simp only [bI_t e, if_neg n10]
    by_cases e2 : isN t 12
    · obtain ⟨i, hi, rfl⟩ := isN_ex e2
      obtain ⟨m1, m2⟩ := inb96 (show k < 8 by omega) hi
      simp only [bI_t e2, if_neg n10, s1, ob_s, a3, chk_t a7, a8, chk_t p1, p2, p3, chk_t s2, d1, chk_t d2, d3, tw_mul_nI, nI_add, chk_t m1, m2, ((hxm.2.2 k hk).2 i hi).2, bnd_e]
      refine E2_of (r := waR (cKd C k) (cFm C k i)) (X := fun u => Fr (cG3 123) x u) (M := fun u => u = m) (Wp_c tk (fun u hu => ?_)) (X8_washedL hm (by omega) (hxm.2.2 k hk).1.1 (by have := (hI.2.2 k hk).1.1; omega) ((hI.2.2 k hk).2 i hi).2.1) (fun u v hu hv => ?_)
      · exact Wp_m (X7_washedL (hu.1.shx hs) hu.2 (hI.g hk) hi) (fun q hq => ⟨hq.1, hu.1.trans hq.2⟩)
      · subst hv
        exact h.same (hu.mono (fun a i q => cXx_123 q)) (hu.mono (fun a i q => by have := q.1; omega)) (Fr.refl _) hxm
    · simp only [bI_f e2, if_true]
      exact h.l6
  · simp only [bI_f e, if_true]
    exact h.l1
theorem C_kept {C : Cl} {x m : Wd} (h : RelC C x m) (g : Int32) (n : Int32) : E2 (fX7_kept 0 g n x) (fX8_kept 0 g n m) := by
  obtain ⟨⟨hs, hm, hI, hx, hxm⟩, -⟩ := id h
  have hP : cP C ≤ 6 := hI.1.1
  have hG : cG C ≤ 8 := hI.1.2
  have hc := hs.cl (b := 3) (Or.inl rfl)
  obtain ⟨a1, a2, a3, a4, a5, a6, a7, a8, a9, a10⟩ := hc.B
  obtain ⟨t1, t2, t3, t4, t5, t6, t7, t8, t9⟩ := hs.T
  have a0 := hm.O
  have gG := X0_hasGarment hc (n := cG C) hx.1.2.1 (by omega)
  have gP := X0_hasPerson hc (n := cP C) hx.1.1 (by omega)
  have mG := X8_isGarment hm (n := cG C) hxm.1.2.1 (by omega)
  have mP := X8_isOne hm (n := cP C) hxm.1.1 (by omega)
  unfold fX7_kept fX8_kept
  simp only [chk_t t1, t2, t3, t4, t5, ob_s, chk_t a1, chk_t a0, gG, gP, mG, mP, ob_eta, W7_9, X8_isDigit]
  by_cases e : isN g (cG C)
  · obtain ⟨k, hk, rfl⟩ := isN_ex e
    obtain ⟨p1, p2, p3, p4, p5, p6, p7, p8, p9, p10⟩ := hc.G (show k < 8 by omega)
    obtain ⟨s0, s1⟩ := GaS.sp hs
    have s2 : isO x 123 2 := ⟨by have := s0.1; omega, s0.2.1⟩
    have tk := X2_take s0 (hc.2.2 k (by omega)).2 (hx.g hk) (by omega)
    simp only [bI_t e, if_neg n10]
    by_cases e2 : isN n 10
    · obtain ⟨i, hi, rfl⟩ := isN_ex e2
      simp only [bI_t e2, if_neg n10, s1, ob_s, a3, chk_t a7, a8, chk_t p1, p2, p3, chk_t s2, X8_keptL hm hxm hI hk hi]
      refine E2_of (r := nI (keS (cKd C k) (cFm C k) i)) (X := fun u => Fr (cG3 123) x u) (M := fun u => u = m) (Wp_c tk (fun u hu => ?_)) (Wp_of rfl ⟨rfl, rfl⟩) (fun u v hu hv => ?_)
      · exact Wp_m (X7_keptL (hu.1.shx hs) hu.2 (hI.g hk) hi) (fun q hq => ⟨hq.1, hu.1.trans hq.2⟩)
      · subst hv
        exact h.same (hu.mono (fun a i q => cXx_123 q)) (hu.mono (fun a i q => by have := q.1; omega)) (Fr.refl _) hxm
    · simp only [bI_f e2, if_true]
      exact h.r6
  · simp only [bI_f e, if_true]
    exact h.r1
theorem C_settled {C : Cl} {x m : Wd} (h : RelC C x m) : E2 (fX7_settled 0  x) (fX8_settled 0  m) := by
  obtain ⟨⟨hs, hm, hI, hx, hxm⟩, -⟩ := id h
  have hP : cP C ≤ 6 := hI.1.1
  have hG : cG C ≤ 8 := hI.1.2
  have hc := hs.cl (b := 3) (Or.inl rfl)
  obtain ⟨a1, a2, a3, a4, a5, a6, a7, a8, a9, a10⟩ := hc.B
  obtain ⟨t1, t2, t3, t4, t5, t6, t7, t8, t9⟩ := hs.T
  have a0 := hm.O
  have gG := X0_hasGarment hc (n := cG C) hx.1.2.1 (by omega)
  have gP := X0_hasPerson hc (n := cP C) hx.1.1 (by omega)
  have mG := X8_isGarment hm (n := cG C) hxm.1.2.1 (by omega)
  have mP := X8_isOne hm (n := cP C) hxm.1.1 (by omega)
  exact E2_of (X := fun u => Fr (cCl 43) x u) (M := fun u => Fr cMx m u ∧ IsM u C) (X7_settled hs hx hI) (X8_settled hm hxm hI) (fun u v hu hv => h.same (hu.mono (fun a i q => cXx_43 q)) (hu.mono (fun a i q => by have := q.1; omega)) hv.1 hv.2)
