/-! calls that change people and garments; days tried -/
theorem X0_fullP {w : Wd} {b n : Nat} (o : isO w b 0) (hn : wI w b 3 = nI n) (h6 : n ≤ 8) : fX0_isFullOfPeople b w = some (bI (¬ n < 6), w) := by
  unfold fX0_isFullOfPeople
  simp only [chk_t o, hn, ltR6 (show n < 2147483648 by omega)]
  by_cases e : n < 6
  · rw [if_pos e, bI_f (not_not_intro e)]
    exact c01_0 w
  · rw [if_neg e, bI_t e]
    exact c01_1 w
theorem X0_fullG {w : Wd} {b n : Nat} (o : isO w b 0) (hn : wI w b 4 = nI n) (h6 : n ≤ 8) : fX0_isFullOfGarments b w = some (bI (¬ n < 8), w) := by
  unfold fX0_isFullOfGarments
  simp only [chk_t o, hn, ltR8 (show n < 2147483648 by omega)]
  by_cases e : n < 8
  · rw [if_pos e, bI_f (not_not_intro e)]
    exact c01_0 w
  · rw [if_neg e, bI_t e]
    exact c01_1 w
theorem C_person {C : Cl} {x m : Wd} (h : RelC C x m) (v : Int32) : E2 (fX7_person 0 v x) (fX8_person 0 v m) := by
  obtain ⟨⟨hs, hm, hI, hx, hxm⟩, -⟩ := id h
  have hP : cP C ≤ 6 := hI.1.1
  have hG : cG C ≤ 8 := hI.1.2
  have hc := hs.cl (b := 3) (Or.inl rfl)
  obtain ⟨a1, a2, a3, a4, a5, a6, a7, a8, a9, a10⟩ := hc.B
  obtain ⟨t1, t2, t3, t4, t5, t6, t7, t8, t9⟩ := hs.T
  have a0 := hm.O
  have gG := X0_hasGarment hc (n := cG C) hx.1.2.1 (by omega)
  have gP := X0_hasPerson hc (n := cP C) hx.1.1 (by omega)
  have mG := X8_isGarment hm (n := cG C) hxm.1.2.1 (by omega)
  have mP := X8_isOne hm (n := cP C) hxm.1.1 (by omega)
  unfold fX7_person fX8_person fX8_person_b37
  simp only [chk_t t1, t2, t3, t4, t5, ob_s, chk_t a1, chk_t a0, gG, gP, mG, mP, ob_eta, X7_isDigit, X8_isDigit, X0_fullP a1 hx.1.1 (by omega), hxm.1.1, eqL6 (show cP C < 2147483648 by omega)]
  by_cases e : isN v 10
  · obtain ⟨k, hk, rfl⟩ := isN_ex e
    simp only [bI_t e, if_neg n10]
    by_cases e2 : cP C < 6
    · simp only [bI_f (not_not_intro e2), if_true, if_neg (show ¬ cP C = 6 by omega)]
      refine E2_of (r := nI (cP C)) (X := fun u => Fr (cCl 3) x u ∧ IsX u 3 (newP C k)) (M := fun u => Fr (fun x i => x = 4 ∨ x = 5 ∨ (x = 0 ∧ i = 3)) m u ∧ IsM u (newP C k)) (X0_addPerson hc hx e2 k) (X8_newOne hm hxm e2 k) (fun u v hu hv => ?_)
      exact h.fr (hu.1.mono (fun a i q => cXx_3 q)) hu.2 (hv.1.mono (fun a i q => by unfold cMx; omega)) hv.2 (CI_newP hI e2 (by omega)) (Nat.le_refl _)
    · simp only [bI_t e2, if_neg n10, if_pos (show cP C = 6 by omega)]
      exact h.r7
  · simp only [bI_f e, if_true]
    exact h.r6
theorem C_garment {C : Cl} {x m : Wd} (h : RelC C x m) (k : Int32) (v : Int32) : E2 (fX7_garment 0 k v x) (fX8_garment 0 k v m) := by
  obtain ⟨⟨hs, hm, hI, hx, hxm⟩, -⟩ := id h
  have hP : cP C ≤ 6 := hI.1.1
  have hG : cG C ≤ 8 := hI.1.2
  have hc := hs.cl (b := 3) (Or.inl rfl)
  obtain ⟨a1, a2, a3, a4, a5, a6, a7, a8, a9, a10⟩ := hc.B
  obtain ⟨t1, t2, t3, t4, t5, t6, t7, t8, t9⟩ := hs.T
  have a0 := hm.O
  have gG := X0_hasGarment hc (n := cG C) hx.1.2.1 (by omega)
  have gP := X0_hasPerson hc (n := cP C) hx.1.1 (by omega)
  have mG := X8_isGarment hm (n := cG C) hxm.1.2.1 (by omega)
  have mP := X8_isOne hm (n := cP C) hxm.1.1 (by omega)
  unfold fX7_garment fX8_garment fX8_garment_b54
  simp only [chk_t t1, t2, t3, t4, t5, ob_s, chk_t a1, chk_t a0, gG, gP, mG, mP, ob_eta, X7_isKind, W8_6, X7_isDigit, X8_isDigit, X0_fullG a1 hx.1.2.1 (by omega), hxm.1.2.1, eqL8 (show cG C < 2147483648 by omega)]
  by_cases e0 : isN k 7
  · obtain ⟨j, hj, rfl⟩ := isN_ex e0
    simp only [bI_t e0, if_neg n10]
    by_cases e : isN v 10
    · obtain ⟨k, hk, rfl⟩ := isN_ex e
      simp only [bI_t e, if_neg n10]
      by_cases e2 : cG C < 8
      · simp only [bI_f (not_not_intro e2), if_true, if_neg (show ¬ cG C = 8 by omega)]
        refine E2_of (r := nI (cG C)) (X := fun u => Fr (cCl 3) x u ∧ IsX u 3 (newG C j k)) (M := fun u => Fr (fun x i => cH (cG C) x i ∨ (x = 0 ∧ i = 6)) m u ∧ IsM u (newG C j k)) (X0_addGarment hc hx hI e2 j k) (X8_newGarment hm hxm e2 j k) (fun u v hu hv => ?_)
        exact h.fr (hu.1.mono (fun a i q => cXx_3 q)) hu.2 (hv.1.mono (fun a i q => by unfold cH at q; unfold cMx; omega)) hv.2 (CI_newG hI e2 (by omega) (by omega)) (Nat.le_succ _)
      · simp only [bI_t e2, if_neg n10, if_pos (show cG C = 8 by omega)]
        exact h.r7
    · simp only [bI_f e, if_true]
      exact h.r6
  · simp only [bI_f e0, if_true]
    exact h.r1
theorem C_own {C : Cl} {x m : Wd} (h : RelC C x m) (p : Int32) (t : Int32) (v : Int32) : E2 (fX7_own 0 p t v x) (fX8_own 0 p t v m) := by
  obtain ⟨⟨hs, hm, hI, hx, hxm⟩, -⟩ := id h
  have hP : cP C ≤ 6 := hI.1.1
  have hG : cG C ≤ 8 := hI.1.2
  have hc := hs.cl (b := 3) (Or.inl rfl)
  obtain ⟨a1, a2, a3, a4, a5, a6, a7, a8, a9, a10⟩ := hc.B
  obtain ⟨t1, t2, t3, t4, t5, t6, t7, t8, t9⟩ := hs.T
  have a0 := hm.O
  have gG := X0_hasGarment hc (n := cG C) hx.1.2.1 (by omega)
  have gP := X0_hasPerson hc (n := cP C) hx.1.1 (by omega)
  have mG := X8_isGarment hm (n := cG C) hxm.1.2.1 (by omega)
  have mP := X8_isOne hm (n := cP C) hxm.1.1 (by omega)
  unfold fX7_own fX8_own fX7_own_b31 fX8_own_b28
  simp only [chk_t t1, t2, t3, t4, t5, ob_s, chk_t a1, chk_t a0, gG, gP, mG, mP, ob_eta, X7_isHour, X8_isHour, X7_isDigit, X8_isDigit]
  by_cases e : isN p (cP C)
  · obtain ⟨k, hk, rfl⟩ := isN_ex e
    simp only [bI_t e, if_neg n10]
    by_cases e2 : isN t 12
    · obtain ⟨i, hi, rfl⟩ := isN_ex e2
      simp only [bI_t e2, if_neg n10]
      by_cases e3 : isN v 10
      · obtain ⟨d, hd, rfl⟩ := isN_ex e3
        obtain ⟨p1, p2, p3, p4, p5, p6, p7⟩ := hc.P (show k < 6 by omega)
        obtain ⟨n1, n2⟩ := inb12 hi
        obtain ⟨m1, m2⟩ := inb72 (show k < 6 by omega) hi
        obtain ⟨c1, c2, c3⟩ := hm.a5
        obtain ⟨x1, x4⟩ := hx.2.1 k hk
        obtain ⟨y1, y4⟩ := hxm.2.1 k hk
        obtain ⟨w1, w4⟩ := hI.2.1 k hk
        simp only [bI_t e3, if_neg n10, a2, ob_s, chk_t a5, a6, chk_t p1, p2, p3, chk_t p4, p5, chk_t p6, p7, chk_t n1, n2, bnd_e, x4 i hi, c1, chk_t c2, c3, tw_mul_nI, nI_add, chk_t m1, m2, y4 i hi]
        refine E2_eq (h.fr (C' := setP C (cP C) k (cWl C k) (upN (cOw C k) i d)) (Fr_sI _ (by unfold pA; exact Or.inl ⟨by omega, by omega⟩)) ?_ (Fr_sI _ (by unfold cMx; omega)) ?_ (hI.setP hP (Or.inl rfl) w1 (fun j hj => ?_)) (Nat.le_refl _))
        · refine hx.setP hP (Or.inl rfl) hk (fun a j q1 q2 => wI_n (by omega)) ?_ ?_ (fun j hj => ?_)
          · rw [wI_n (by unfold pA; omega)]; exact hx.1.1
          · rw [wI_n (by unfold pA; omega)]; exact x1
          · by_cases r : j = i
            · subst r
              rw [wI_e, upN_e]
            · rw [wI_n (by omega), upN_n _ _ r]; exact x4 j hj
        · refine hxm.setP (Or.inl rfl) (fun a j q1 q2 q3 q4 => wI_n (by omega)) ?_ ?_ (fun j hj => ?_)
          · rw [wI_n (by omega)]; exact hxm.1.1
          · rw [wI_n (by omega)]; exact y1
          · by_cases r : j = i
            · subst r
              rw [wI_e, upN_e]
            · rw [wI_n (by omega), upN_n _ _ r]; exact y4 j hj
        · by_cases r : j = i
          · subst r
            rw [upN_e]
            omega
          · rw [upN_n _ _ r]; exact w4 j hj
      · simp only [bI_f e3, if_true]
        exact h.r6
    · simp only [bI_f e2, if_true]
      exact h.r6
  · simp only [bI_f e, if_true]
    exact h.r1
theorem C_will {C : Cl} {x m : Wd} (h : RelC C x m) (p : Int32) (v : Int32) : E2 (fX7_will 0 p v x) (fX8_will 0 p v m) := by
  obtain ⟨⟨hs, hm, hI, hx, hxm⟩, -⟩ := id h
  have hP : cP C ≤ 6 := hI.1.1
  have hG : cG C ≤ 8 := hI.1.2
  have hc := hs.cl (b := 3) (Or.inl rfl)
  obtain ⟨a1, a2, a3, a4, a5, a6, a7, a8, a9, a10⟩ := hc.B
  obtain ⟨t1, t2, t3, t4, t5, t6, t7, t8, t9⟩ := hs.T
  have a0 := hm.O
  have gG := X0_hasGarment hc (n := cG C) hx.1.2.1 (by omega)
  have gP := X0_hasPerson hc (n := cP C) hx.1.1 (by omega)
  have mG := X8_isGarment hm (n := cG C) hxm.1.2.1 (by omega)
  have mP := X8_isOne hm (n := cP C) hxm.1.1 (by omega)
  unfold fX7_will fX8_will
  simp only [chk_t t1, t2, t3, t4, t5, ob_s, chk_t a1, chk_t a0, gG, gP, mG, mP, ob_eta, X7_isDigit, X8_isDigit]
  by_cases e : isN p (cP C)
  · obtain ⟨k, hk, rfl⟩ := isN_ex e
    simp only [bI_t e, if_neg n10]
    by_cases e3 : isN v 10
    · obtain ⟨d, hd, rfl⟩ := isN_ex e3
      obtain ⟨p1, p2, p3, p4, p5, p6, p7⟩ := hc.P (show k < 6 by omega)
      obtain ⟨b1, b2⟩ := inb6 (show k < 6 by omega)
      obtain ⟨c1, c2, c3⟩ := hm.a4
      obtain ⟨x1, x4⟩ := hx.2.1 k hk
      obtain ⟨y1, y4⟩ := hxm.2.1 k hk
      obtain ⟨w1, w4⟩ := hI.2.1 k hk
      simp only [bI_t e3, if_neg n10, a2, ob_s, chk_t a5, a6, chk_t p1, p2, p3, chk_t p4, bnd_e, x1, c1, chk_t c2, c3, chk_t b1, b2, y1]
      refine E2_eq (h.fr (C' := setP C (cP C) k d (cOw C k)) (Fr_sI _ (by unfold pA; exact Or.inl ⟨by omega, by omega⟩)) ?_ (Fr_sI _ (by unfold cMx; omega)) ?_ (hI.setP hP (Or.inl rfl) (by omega) w4) (Nat.le_refl _))
      · refine hx.setP hP (Or.inl rfl) hk (fun a j q1 q2 => wI_n (by omega)) ?_ (wI_e _ _ _ _) (fun j hj => ?_)
        · rw [wI_n (by unfold pA; omega)]; exact hx.1.1
        · rw [wI_n (by omega)]; exact x4 j hj
      · refine hxm.setP (Or.inl rfl) (fun a j q1 q2 q3 q4 => wI_n (by omega)) ?_ (wI_e _ _ _ _) (fun j hj => ?_)
        · rw [wI_n (by omega)]; exact hxm.1.1
        · rw [wI_n (by omega)]; exact y4 j hj
    · simp only [bI_f e3, if_true]
      exact h.r6
  · simp only [bI_f e, if_true]
    exact h.r1
theorem C_habitT {C : Cl} {x m : Wd} (h : RelC C x m) {k i d f : Nat} (hk : k < cG C) (hi : i < 12) (hd : d < 10) (hf : f < 10) (s0 s1 : Int32) (hz : s1 = s0 ↔ (d = 0 ↔ f = 0)) : E2 (fX7_habit_b58 0 (nI k) (nI i) (nI d) (nI f) s0 s1 x) (fX8_habit_b55 0 (nI k) (nI i) (nI d) (nI f) s0 s1 m) := by
  obtain ⟨⟨hs, hm, hI, hx, hxm⟩, -⟩ := id h
  have hP : cP C ≤ 6 := hI.1.1
  have hG : cG C ≤ 8 := hI.1.2
  have hc := hs.cl (b := 3) (Or.inl rfl)
  obtain ⟨a1, a2, a3, a4, a5, a6, a7, a8, a9, a10⟩ := hc.B
  obtain ⟨t1, t2, t3, t4, t5, t6, t7, t8, t9⟩ := hs.T
  have a0 := hm.O
  have gG := X0_hasGarment hc (n := cG C) hx.1.2.1 (by omega)
  have gP := X0_hasPerson hc (n := cP C) hx.1.1 (by omega)
  have mG := X8_isGarment hm (n := cG C) hxm.1.2.1 (by omega)
  have mP := X8_isOne hm (n := cP C) hxm.1.1 (by omega)
  unfold fX7_habit_b58 fX8_habit_b55 fX7_habit_b61 fX8_habit_b58
  by_cases e : s1 = s0
  · obtain ⟨p1, p2, p3, p4, p5, p6, p7, p8, p9, p10⟩ := hc.G (show k < 8 by omega)
    obtain ⟨n1, n2⟩ := inb12 hi
    obtain ⟨m1, m2⟩ := inb96 (show k < 8 by omega) hi
    obtain ⟨c1, c2, c3⟩ := hm.a9
    have ac := X2_accustom (hc.2.2 k (by omega)).2 hi (nI d) (nI f)
    have ac' : fX2_accustom (gA 3 k) (nI i) (nI d) (nI f) x = some (sI (sI x (gA 3 k + 1) i (nI d)) (gA 3 k + 2) i (nI f)) := ac
    simp only [if_pos e, chk_t t1, t2, t3, t4, t5, ob_s, chk_t a1, chk_t a0, gG, gP, mG, mP, ob_eta, a3, chk_t a7, a8, chk_t p1, p2, p3, chk_t p4, p5, chk_t p7, p8, chk_t n1, n2, bnd_e, ((hx.2.2 k hk).2 i hi).1, c1, chk_t c2, c3, tw_mul_nI, nI_add, chk_t m1, m2, ((hxm.2.2 k hk).2 i hi).1, ac', X8_becomes hm (show k < 8 by omega) hi]
    refine E2_eq (h.fr (C' := setH C k i d f) ((Fr_sI _ (Or.inl ⟨by unfold gA; omega, by unfold gA; omega⟩)).sI _ (Or.inl ⟨by unfold gA; omega, by unfold gA; omega⟩)) (IsX_setH hx hI (by omega) d f) ((Fr_sI _ (by unfold cMx; omega)).sI _ (by unfold cMx; omega)) (IsM_setH hxm hi d f) (CI_setH hI k i (by omega) (by omega) (hz.mp e)) (Nat.le_refl _))
  · simp only [if_neg e, chk_t t1, chk_t a0, ob_eta]
    exact h.r6
theorem C_habit {C : Cl} {x m : Wd} (h : RelC C x m) (g : Int32) (t : Int32) (v : Int32) (f : Int32) : E2 (fX7_habit 0 g t v f x) (fX8_habit 0 g t v f m) := by
  obtain ⟨⟨hs, hm, hI, hx, hxm⟩, -⟩ := id h
  have hP : cP C ≤ 6 := hI.1.1
  have hG : cG C ≤ 8 := hI.1.2
  have hc := hs.cl (b := 3) (Or.inl rfl)
  obtain ⟨a1, a2, a3, a4, a5, a6, a7, a8, a9, a10⟩ := hc.B
  obtain ⟨t1, t2, t3, t4, t5, t6, t7, t8, t9⟩ := hs.T
  have a0 := hm.O
  have gG := X0_hasGarment hc (n := cG C) hx.1.2.1 (by omega)
  have gP := X0_hasPerson hc (n := cP C) hx.1.1 (by omega)
  have mG := X8_isGarment hm (n := cG C) hxm.1.2.1 (by omega)
  have mP := X8_isOne hm (n := cP C) hxm.1.1 (by omega)
  unfold fX7_habit fX8_habit fX7_habit_b61 fX8_habit_b58 fX7_habit_b48 fX8_habit_b45
  simp only [chk_t t1, t2, t3, t4, t5, ob_s, chk_t a1, chk_t a0, gG, gP, mG, mP, ob_eta, X7_isHour, X8_isHour, X7_isDigit, X8_isDigit]
  by_cases e : isN g (cG C)
  · obtain ⟨k, hk, rfl⟩ := isN_ex e
    simp only [bI_t e, if_neg n10]
    by_cases e2 : isN t 12
    · obtain ⟨i, hi, rfl⟩ := isN_ex e2
      simp only [bI_t e2, if_neg n10]
      by_cases e3 : isN v 10
      · obtain ⟨d, hd, rfl⟩ := isN_ex e3
        simp only [bI_t e3, if_neg n10]
        by_cases e4 : isN f 10
        · obtain ⟨f, hf, rfl⟩ := isN_ex e4
          simp only [bI_t e4, if_neg n10, eqL0 (show d < 2147483648 by omega), eqL0 (show f < 2147483648 by omega)]
          by_cases z1 : d = 0
          · simp only [if_pos z1]
            by_cases z2 : f = 0
            · simp only [if_pos z2]
              exact C_habitT h hk hi hd hf 1 1 (by simp [z1, z2])
            · simp only [if_neg z2]
              exact C_habitT h hk hi hd hf 0 1 (by simp [z1, z2])
          · simp only [if_neg z1]
            by_cases z2 : f = 0
            · simp only [if_pos z2]
              exact C_habitT h hk hi hd hf 1 0 (by simp [z1, z2])
            · simp only [if_neg z2]
              exact C_habitT h hk hi hd hf 0 0 (by simp [z1, z2])
        · simp only [bI_f e4, if_true]
          exact h.r6
      · simp only [bI_f e3, if_true]
        exact h.r6
    · simp only [bI_f e2, if_true]
      exact h.r6
  · simp only [bI_f e, if_true]
    exact h.r1
theorem C_wearT {C : Cl} {x m : Wd} (h : RelC C x m) {k W : Nat} (hk : k < cG C) (hW : W ≤ cP C) : E2 (fX7_wear_b33 0 (nI k) (wv W) x) (fX8_wear_b27 0 (nI k) (wv W) m) := by
  obtain ⟨⟨hs, hm, hI, hx, hxm⟩, -⟩ := id h
  have hP : cP C ≤ 6 := hI.1.1
  have hG : cG C ≤ 8 := hI.1.2
  have hc := hs.cl (b := 3) (Or.inl rfl)
  obtain ⟨a1, a2, a3, a4, a5, a6, a7, a8, a9, a10⟩ := hc.B
  obtain ⟨t1, t2, t3, t4, t5, t6, t7, t8, t9⟩ := hs.T
  have a0 := hm.O
  have gG := X0_hasGarment hc (n := cG C) hx.1.2.1 (by omega)
  have gP := X0_hasPerson hc (n := cP C) hx.1.1 (by omega)
  have mG := X8_isGarment hm (n := cG C) hxm.1.2.1 (by omega)
  have mP := X8_isOne hm (n := cP C) hxm.1.1 (by omega)
  unfold fX7_wear_b33 fX8_wear_b27
  obtain ⟨p1, p2, p3, p4, p5, p6, p7, p8, p9, p10⟩ := hc.G (show k < 8 by omega)
  obtain ⟨b1, b2⟩ := inb8 (show k < 8 by omega)
  obtain ⟨c1, c2, c3⟩ := hm.a8
  simp only [chk_t t1, t2, t3, t4, t5, ob_s, chk_t a1, chk_t a0, gG, gP, mG, mP, ob_eta, a3, chk_t a7, a8, chk_t p1, p2, p3, chk_t p4, bnd_e, (hx.2.2 k hk).1.2.2, c1, chk_t c2, c3, chk_t b1, b2, (hxm.2.2 k hk).1.2.2]
  exact E2_eq (h.fr (C' := wrC C k W) (Fr_sI _ (Or.inl ⟨by unfold gA; omega, by unfold gA; omega⟩)) (IsX_wrC hx hI hk) (Fr_sI _ (by unfold cMx; omega)) (IsM_wrC hxm hk) (CI_wrC hI hk hW) (Nat.le_refl _))
theorem C_wear {C : Cl} {x m : Wd} (h : RelC C x m) (g : Int32) (p : Int32) : E2 (fX7_wear 0 g p x) (fX8_wear 0 g p m) := by
  obtain ⟨⟨hs, hm, hI, hx, hxm⟩, -⟩ := id h
  have hP : cP C ≤ 6 := hI.1.1
  have hG : cG C ≤ 8 := hI.1.2
  have hc := hs.cl (b := 3) (Or.inl rfl)
  obtain ⟨a1, a2, a3, a4, a5, a6, a7, a8, a9, a10⟩ := hc.B
  obtain ⟨t1, t2, t3, t4, t5, t6, t7, t8, t9⟩ := hs.T
  have a0 := hm.O
  have gG := X0_hasGarment hc (n := cG C) hx.1.2.1 (by omega)
  have gP := X0_hasPerson hc (n := cP C) hx.1.1 (by omega)
  have mG := X8_isGarment hm (n := cG C) hxm.1.2.1 (by omega)
  have mP := X8_isOne hm (n := cP C) hxm.1.1 (by omega)
  unfold fX7_wear fX8_wear fX7_wear_b27 fX8_wear_b21
  simp only [chk_t t1, t2, t3, t4, t5, ob_s, chk_t a1, chk_t a0, gG, gP, mG, mP, ob_eta]
  by_cases e : isN g (cG C)
  · obtain ⟨k, hk, rfl⟩ := isN_ex e
    simp only [bI_t e, if_neg n10]
    by_cases e2 : p = -1
    · simp only [if_pos e2]
      have := C_wearT h hk (Nat.zero_le (cP C))
      rw [wv_0] at this
      rw [e2]
      exact this
    · simp only [if_neg e2]
      by_cases e3 : isN p (cP C)
      · obtain ⟨q, hq, rfl⟩ := isN_ex e3
        simp only [bI_t e3, if_neg n10]
        have := C_wearT h hk (show q + 1 ≤ cP C from hq)
        rw [wv_s] at this
        exact this
      · simp only [bI_f e3, if_true]
        exact h.l1
  · simp only [bI_f e, if_true]
    exact h.l1
theorem C_wash {C : Cl} {x m : Wd} (h : RelC C x m) (g : Int32) : E2 (fX7_wash 0 g x) (fX8_wash 0 g m) := by
  obtain ⟨⟨hs, hm, hI, hx, hxm⟩, -⟩ := id h
  have hP : cP C ≤ 6 := hI.1.1
  have hG : cG C ≤ 8 := hI.1.2
  have hc := hs.cl (b := 3) (Or.inl rfl)
  obtain ⟨a1, a2, a3, a4, a5, a6, a7, a8, a9, a10⟩ := hc.B
  obtain ⟨t1, t2, t3, t4, t5, t6, t7, t8, t9⟩ := hs.T
  have a0 := hm.O
  have gG := X0_hasGarment hc (n := cG C) hx.1.2.1 (by omega)
  have gP := X0_hasPerson hc (n := cP C) hx.1.1 (by omega)
  have mG := X8_isGarment hm (n := cG C) hxm.1.2.1 (by omega)
  have mP := X8_isOne hm (n := cP C) hxm.1.1 (by omega)
  unfold fX7_wash fX8_wash
  simp only [chk_t t1, t2, t3, t4, t5, ob_s, chk_t a1, chk_t a0, gG, gP, mG, mP, ob_eta]
  by_cases e : isN g (cG C)
  · obtain ⟨k, hk, rfl⟩ := isN_ex e
    obtain ⟨p1, p2, p3, p4, p5, p6, p7, p8, p9, p10⟩ := hc.G (show k < 8 by omega)
    have hIn := CI_wsC hI hk
    simp only [bI_t e, if_neg n10, a3, ob_s, chk_t a7, a8, chk_t p1, p2, p3, chk_t p4]
    refine E2_of (r := nI (hbS (wsC C k) k)) (X := fun u => Fr (cCl 3) x u ∧ IsX u 3 (wsC C k)) (M := fun u => Fr cM9 m u ∧ IsM u (wsC C k)) (Wp_c (X0_launder hc hx hI hk) (fun u hu => ?_)) (Wp_c (X8_washes hm hxm hI hk) (fun u hu => ?_)) (fun u v hu hv => ?_)
    · have hsu := hu.1.shx hs
      have hcu := hsu.cl (b := 3) (Or.inl rfl)
      obtain ⟨a1, a2, a3, a4, a5, a6, a7, a8, a9, a10⟩ := hcu.B
      obtain ⟨t1, t2, t3, t4, t5, t6, t7, t8, t9⟩ := hsu.T
      obtain ⟨p1, p2, p3, p4, p5, p6, p7, p8, p9, p10⟩ := hcu.G (show k < 8 by omega)
      have hh := X2_countHabits (hcu.2.2 k (by omega)).2
      have hh' : fX2_countHabits (gA 3 k) u = some (nI (cntN (fun i => decide (¬ wI u (gA 3 k + 1) i = 0)) 12), u) := hh
      simp only [chk_t t1, t4, ob_s, chk_t a1, a3, chk_t a7, a8, chk_t p1, p2, p3, chk_t p4, hh']
      refine Wp_of rfl ⟨congrArg nI (cntN_congr 12 (fun i hi => ?_)), hu.1.mono (fun a i q => ⟨by unfold gA at q; omega, by unfold gA at q; omega⟩), hu.2⟩
      have e1 := ((hu.2.2.2 k hk).2 i hi).1
      have l1 := ((hIn.2.2 k hk).2 i hi).1
      have e2 : (wI u (gA 3 k + 1) i = 0) = (cHb (wsC C k) k i = 0) := by rw [e1]; exact eqL0 (by omega)
      simp only [e2]
    · have hmu := hu.1.shm hm
      simp only [chk_t hmu.O, X8_habits hmu hu.2 hIn (show k < cG (wsC C k) from hk)]
      exact Wp_of rfl ⟨rfl, hu⟩
    · exact h.fr (hu.1.mono (fun a i q => cXx_3 q)) hu.2 (hv.1.mono (fun a i q => by unfold cM9 at q; unfold cMx; omega)) hv.2 hIn (Nat.le_refl _)
  · simp only [bI_f e, if_true]
    exact h.r1
theorem C_seed {C : Cl} {x m : Wd} (h : RelC C x m) (v : Int32) : E2 (fX7_seed 0 v x) (fX8_seed 0 v m) := by
  obtain ⟨⟨hs, hm, hI, hx, hxm⟩, -⟩ := id h
  have hP : cP C ≤ 6 := hI.1.1
  have hG : cG C ≤ 8 := hI.1.2
  have hc := hs.cl (b := 3) (Or.inl rfl)
  obtain ⟨a1, a2, a3, a4, a5, a6, a7, a8, a9, a10⟩ := hc.B
  obtain ⟨t1, t2, t3, t4, t5, t6, t7, t8, t9⟩ := hs.T
  have a0 := hm.O
  have gG := X0_hasGarment hc (n := cG C) hx.1.2.1 (by omega)
  have gP := X0_hasPerson hc (n := cP C) hx.1.1 (by omega)
  have mG := X8_isGarment hm (n := cG C) hxm.1.2.1 (by omega)
  have mP := X8_isOne hm (n := cP C) hxm.1.1 (by omega)
  unfold fX7_seed fX8_seed
  simp only [chk_t t1, t2, t3, t4, t5, ob_s, chk_t a1, chk_t a0, gG, gP, mG, mP, ob_eta, bnd_e, hx.1.2.2.1, hxm.1.2.2.1]
  exact E2_eq (h.fr (C' := setS C v) (Fr_sI _ (Or.inl ⟨by decide, by decide⟩)) (IsX_setS hx hI v) (Fr_sI _ (by unfold cMx; omega)) (IsM_setS hxm v) (CI_setS hI v) (Nat.le_refl _))
theorem C_days {C : Cl} {x m : Wd} (h : RelC C x m) (n : Int32) : E2 (fX7_days 0 n x) (fX8_days 0 n m) := by
  obtain ⟨⟨hs, hm, hI, hx, hxm⟩, -⟩ := id h
  have hP : cP C ≤ 6 := hI.1.1
  have hG : cG C ≤ 8 := hI.1.2
  have hc := hs.cl (b := 3) (Or.inl rfl)
  obtain ⟨a1, a2, a3, a4, a5, a6, a7, a8, a9, a10⟩ := hc.B
  obtain ⟨t1, t2, t3, t4, t5, t6, t7, t8, t9⟩ := hs.T
  have a0 := hm.O
  have gG := X0_hasGarment hc (n := cG C) hx.1.2.1 (by omega)
  have gP := X0_hasPerson hc (n := cP C) hx.1.1 (by omega)
  have mG := X8_isGarment hm (n := cG C) hxm.1.2.1 (by omega)
  have mP := X8_isOne hm (n := cP C) hxm.1.1 (by omega)
  unfold fX7_days fX8_days
  simp only [chk_t t1, t2, t3, t4, t5, ob_s, chk_t a1, chk_t a0, gG, gP, mG, mP, ob_eta, X7_isWithin, X8_within]
  by_cases e : (1 : Int32) ≤ n ∧ n ≤ 60
  · obtain ⟨k, k1, k2, rfl⟩ := rgN (a := 1) (b := 60) (by decide) e (by decide)
    simp only [if_pos e, if_neg n10]
    refine E2_of (r := nI (dtS C k)) (X := fun u => Fr (cCl 3) x u ∧ IsX u 3 (dnC C k)) (M := fun u => Fr cMx m u ∧ IsM u (dnC C k)) (X7_daysL hs hx hI (by omega)) (X8_daysL hm hxm hI (by omega)) (fun u v hu hv => ?_)
    exact h.fr (hu.1.mono (fun a i q => cXx_3 q)) hu.2 hv.1 hv.2 (CI_dnC hI k) (Nat.le_of_eq (dnC_G C k).symm)
  · simp only [if_neg e, if_true]
    exact h.r6
theorem C_years {C : Cl} {x m : Wd} (h : RelC C x m) (n : Int32) : E2 (fX7_years 0 n x) (fX8_years 0 n m) := by
  obtain ⟨⟨hs, hm, hI, hx, hxm⟩, -⟩ := id h
  have hP : cP C ≤ 6 := hI.1.1
  have hG : cG C ≤ 8 := hI.1.2
  have hc := hs.cl (b := 3) (Or.inl rfl)
  obtain ⟨a1, a2, a3, a4, a5, a6, a7, a8, a9, a10⟩ := hc.B
  obtain ⟨t1, t2, t3, t4, t5, t6, t7, t8, t9⟩ := hs.T
  have a0 := hm.O
  have gG := X0_hasGarment hc (n := cG C) hx.1.2.1 (by omega)
  have gP := X0_hasPerson hc (n := cP C) hx.1.1 (by omega)
  have mG := X8_isGarment hm (n := cG C) hxm.1.2.1 (by omega)
  have mP := X8_isOne hm (n := cP C) hxm.1.1 (by omega)
  unfold fX7_years fX8_years
  simp only [chk_t t1, t2, t3, t4, t5, ob_s, chk_t a1, chk_t a0, gG, gP, mG, mP, ob_eta, X7_isWithin, X8_within, hx.1.2.1, hxm.1.2.1, eqL0 (show cG C < 2147483648 by omega)]
  by_cases e0 : cG C = 0
  · simp only [if_pos e0]
    exact h.r5
  · simp only [if_neg e0]
    by_cases e : (1 : Int32) ≤ n ∧ n ≤ 60
    · obtain ⟨k, k1, k2, rfl⟩ := rgN (a := 1) (b := 60) (by decide) e (by decide)
      simp only [if_pos e, if_neg n10]
      refine E2_of (r := nI (haS (ynC C k) (cG C))) (X := fun u => Fr (cCl 3) x u ∧ IsX u 3 (ynC C k)) (M := fun u => Fr cMx m u ∧ IsM u (ynC C k)) (X7_yearsL hs hx hI (by omega) (by omega)) (X8_yearsL hm hxm hI (by omega) (by omega)) (fun u v hu hv => ?_)
      exact h.fr (hu.1.mono (fun a i q => cXx_3 q)) hu.2 hv.1 hv.2 (CI_ynC hI (by omega) k) (Nat.le_of_eq (ynC_G C k).symm)
    · simp only [if_neg e, if_true]
      exact h.r6
theorem C_does {C : Cl} {x m : Wd} (h : RelC C x m) (p : Int32) (n : Int32) (t : Int32) : E2 (fX7_does 0 p n t x) (fX8_does 0 p n t m) := by
  obtain ⟨⟨hs, hm, hI, hx, hxm⟩, -⟩ := id h
  have hP : cP C ≤ 6 := hI.1.1
  have hG : cG C ≤ 8 := hI.1.2
  have hc := hs.cl (b := 3) (Or.inl rfl)
  obtain ⟨a1, a2, a3, a4, a5, a6, a7, a8, a9, a10⟩ := hc.B
  obtain ⟨t1, t2, t3, t4, t5, t6, t7, t8, t9⟩ := hs.T
  have a0 := hm.O
  have gG := X0_hasGarment hc (n := cG C) hx.1.2.1 (by omega)
  have gP := X0_hasPerson hc (n := cP C) hx.1.1 (by omega)
  have mG := X8_isGarment hm (n := cG C) hxm.1.2.1 (by omega)
  have mP := X8_isOne hm (n := cP C) hxm.1.1 (by omega)
  obtain ⟨e1', e2', e3'⟩ := hm.a15
  unfold fX7_does fX8_does fX8_does_b28
  simp only [chk_t t1, t2, t3, t4, t5, ob_s, chk_t a1, chk_t a0, gG, gP, mG, mP, ob_eta, X7_areDaysAndHour, X8_isDays, X8_isHour]
  by_cases e : isN p (cP C)
  · obtain ⟨k, hk, rfl⟩ := isN_ex e
    simp only [bI_t e, if_neg n10]
    by_cases e2 : isN n 61 ∧ isN t 12
    · have e3 := e2.1
      have e4 := e2.2
      simp only [bI_t e2, bI_t e3, bI_t e4, if_neg n10, e1', ob_s]
      obtain ⟨n, hn, rfl⟩ := isN_ex e3
      obtain ⟨t, ht, rfl⟩ := isN_ex e4
      refine E2_of (r := nI (doesS (dnC C n) k t)) (X := fun u => Fr (cCl 43) x u) (M := fun u => Fr cMx m u ∧ IsM u C) (Wp_c (X7_tryDays hs hx hI hn ht) (fun u hu => ?_)) (Wp_c (X8_keep hm (by decide) e2' e3') (fun w1 h1 => ?_)) (fun u v hu hv => h.same (hu.mono (fun a i q => cXx_43 q)) (hu.mono (fun a i q => by have := q.1; omega)) hv.1 hv.2)
      · obtain ⟨hf, D, hxD, hID, hag⟩ := hu
        have hsu := hf.shx hs
        have hcu := hsu.cl (b := 43) (Or.inr (Or.inl rfl))
        obtain ⟨u1, -⟩ := hcu.B
        obtain ⟨t1, t2, t3, t4, t5, t6, t7, t8, t9⟩ := hsu.T
        have hpD : cP D = cP C := hag.1.1.trans (hnC_P C t n)
        simp only [chk_t t1, t5, ob_s, chk_t u1, X0_deedOf hcu hxD hID (show k < cP D by omega) ht]
        refine Wp_of rfl ⟨?_, hf⟩
        rw [hag.does, (AgH_dn C ht n).does]
      · have hs1 := h1.1.shm hm
        have hx1 := hxm.fr h1.1 (fun a i q => by omega)
        have hf1 : Fr cMx m w1 := h1.1.mono (fun a i q => by unfold cMx; omega)
        simp only [chk_t hs1.O]
        refine Wp_c (X8_waits hs1 hx1 hI hn) (fun w2 h2 => ?_)
        have hs2 := h2.1.shm hs1
        have hID := CI_dnC hI n
        have hgN : cG (dnC C n) = cG C := dnC_G C n
        have hpN : cP (dnC C n) = cP C := dnC_P C n
        obtain ⟨e1'', -⟩ := hs2.a15
        have fin : ∀ r : Int32, Wp (ob (fX8_again 0 15 w2) (fun q25 => some (r, q25))) (fun q => q.1 = r ∧ Fr cMx m q.2 ∧ IsM q.2 C) := fun r => by
          refine Wp_c (X8_back hm hxm hI h1.2 hs1 h2.1 (fun i q => by unfold cMd at q; omega)) (fun u hu => Wp_of rfl ⟨rfl, (hf1.trans (h2.1.mono (fun a i q => cMx_d q))).trans (hu.1.mono (fun a i q => cMx_m q)), hu.2⟩)
        have fin := fin (nI (doesS (dnC C n) k t))
        simp only [chk_t hs2.O, X8_doesNow hs2 h2.2 hID (show k < cP (dnC C n) by omega) ht, ob_s, e1'']
        exact fin
    · simp only [bI_f e2, if_true]
      by_cases e3 : isN n 61
      · have e4 : ¬ isN t 12 := fun q => e2 ⟨e3, q⟩
        simp only [bI_t e3, bI_f e4, if_neg n10, if_true]
        exact h.r6
      · simp only [bI_f e3, if_true]
        exact h.r6
  · simp only [bI_f e, if_true]
    exact h.r1
theorem C_goes {C : Cl} {x m : Wd} (h : RelC C x m) (p : Int32) (n : Int32) (t : Int32) : E2 (fX7_goes 0 p n t x) (fX8_goes 0 p n t m) := by
  obtain ⟨⟨hs, hm, hI, hx, hxm⟩, -⟩ := id h
  have hP : cP C ≤ 6 := hI.1.1
  have hG : cG C ≤ 8 := hI.1.2
  have hc := hs.cl (b := 3) (Or.inl rfl)
  obtain ⟨a1, a2, a3, a4, a5, a6, a7, a8, a9, a10⟩ := hc.B
  obtain ⟨t1, t2, t3, t4, t5, t6, t7, t8, t9⟩ := hs.T
  have a0 := hm.O
  have gG := X0_hasGarment hc (n := cG C) hx.1.2.1 (by omega)
  have gP := X0_hasPerson hc (n := cP C) hx.1.1 (by omega)
  have mG := X8_isGarment hm (n := cG C) hxm.1.2.1 (by omega)
  have mP := X8_isOne hm (n := cP C) hxm.1.1 (by omega)
  obtain ⟨e1', e2', e3'⟩ := hm.a15
  unfold fX7_goes fX8_goes fX8_goes_b28 fX7_goes_b68 fX8_goes_b72
  simp only [chk_t t1, t2, t3, t4, t5, ob_s, chk_t a1, chk_t a0, gG, gP, mG, mP, ob_eta, X7_areDaysAndHour, X8_isDays, X8_isHour]
  by_cases e : isN p (cG C)
  · obtain ⟨k, hk, rfl⟩ := isN_ex e
    simp only [bI_t e, if_neg n10]
    by_cases e2 : isN n 61 ∧ isN t 12
    · have e3 := e2.1
      have e4 := e2.2
      simp only [bI_t e2, bI_t e3, bI_t e4, if_neg n10, e1', ob_s]
      obtain ⟨n, hn, rfl⟩ := isN_ex e3
      obtain ⟨t, ht, rfl⟩ := isN_ex e4
      obtain ⟨n1, n2⟩ := inb12 ht
      refine E2_of (r := (if gnS (dnC C n) k t then nI (cHb (dnC C n) k t) else 0)) (X := fun u => Fr (cCl 43) x u) (M := fun u => Fr cMx m u ∧ IsM u C) (Wp_c (X7_tryDays hs hx hI hn ht) (fun u hu => ?_)) (Wp_c (X8_keep hm (by decide) e2' e3') (fun w1 h1 => ?_)) (fun u v hu hv => h.same (hu.mono (fun a i q => cXx_43 q)) (hu.mono (fun a i q => by have := q.1; omega)) hv.1 hv.2)
      · obtain ⟨hf, D, hxD, hID, hag⟩ := hu
        have hsu := hf.shx hs
        have hcu := hsu.cl (b := 43) (Or.inr (Or.inl rfl))
        obtain ⟨u1, u2, u3, u4, u5, u6, u7, u8, u9, u10⟩ := hcu.B
        obtain ⟨t1, t2, t3, t4, t5, t6, t7, t8, t9⟩ := hsu.T
        have hgD : cG D = cG C := hag.1.2.1.trans (hnC_G C t n)
        obtain ⟨p1, p2, p3, p4, p5, p6, p7, p8, p9, p10⟩ := hcu.G (show k < 8 by omega)
        have hkD : k < cG D := by omega
        have hgn : gnS D k t = gnS (dnC C n) k t := by rw [hag.go hkD, (AgH_dn C ht n).go (by rw [dnC_G]; exact hk)]
        have hhb : cHb D k t = cHb (dnC C n) k t := by rw [(hag.2 k hkD).1, ((AgH_dn C ht n).2 k (by rw [dnC_G]; exact hk)).1]
        simp only [chk_t t1, t5, ob_s, chk_t u1, X0_isGoing hcu hxD hID hkD ht, hgn]
        cases gnS (dnC C n) k t with
        | true =>
          simp only [if_true, if_neg n10, u3, ob_s, chk_t u7, u8, chk_t p1, p2, p3, chk_t p4, p5, chk_t p7, p8, chk_t n1, n2, ((hxD.2.2 k hkD).2 t ht).1, hhb]
          exact Wp_of rfl ⟨rfl, hf⟩
        | false =>
          simp only [if_neg Bool.false_ne_true, if_true]
          exact Wp_of rfl ⟨rfl, hf⟩
      · have hs1 := h1.1.shm hm
        have hx1 := hxm.fr h1.1 (fun a i q => by omega)
        have hf1 : Fr cMx m w1 := h1.1.mono (fun a i q => by unfold cMx; omega)
        simp only [chk_t hs1.O]
        refine Wp_c (X8_waits hs1 hx1 hI hn) (fun w2 h2 => ?_)
        have hs2 := h2.1.shm hs1
        have hID := CI_dnC hI n
        have hgN : cG (dnC C n) = cG C := dnC_G C n
        have hpN : cP (dnC C n) = cP C := dnC_P C n
        obtain ⟨e1'', -⟩ := hs2.a15
        have fin : ∀ r : Int32, Wp (ob (fX8_again 0 15 w2) (fun q25 => some (r, q25))) (fun q => q.1 = r ∧ Fr cMx m q.2 ∧ IsM q.2 C) := fun r => by
          refine Wp_c (X8_back hm hxm hI h1.2 hs1 h2.1 (fun i q => by unfold cMd at q; omega)) (fun u hu => Wp_of rfl ⟨rfl, (hf1.trans (h2.1.mono (fun a i q => cMx_d q))).trans (hu.1.mono (fun a i q => cMx_m q)), hu.2⟩)
        have hkD : k < cG (dnC C n) := by omega
        obtain ⟨c1, c2, c3⟩ := hs2.a9
        obtain ⟨m1, m2⟩ := inb96 (show k < 8 by omega) ht
        simp only [chk_t hs2.O, X8_goesNow hs2 h2.2 hID hkD ht, ob_s, e1'']
        cases gnS (dnC C n) k t with
        | true =>
          have fin := fin (nI (cHb (dnC C n) k t))
          simp only [if_true, if_neg n10, c1, ob_s, chk_t c2, c3, tw_mul_nI, nI_add, chk_t m1, m2, ((h2.2.2.2 k hkD).2 t ht).1]
          exact fin
        | false =>
          have fin := fin 0
          simp only [if_neg Bool.false_ne_true, if_true]
          exact fin
    · simp only [bI_f e2, if_true]
      by_cases e3 : isN n 61
      · have e4 : ¬ isN t 12 := fun q => e2 ⟨e3, q⟩
        simp only [bI_t e3, bI_f e4, if_neg n10, if_true]
        exact h.r6
      · simp only [bI_f e3, if_true]
        exact h.r6
  · simp only [bI_f e, if_true]
    exact h.r1
theorem C_behind {C : Cl} {x m : Wd} (h : RelC C x m) (p : Int32) (n : Int32) (t : Int32) (v : Int32) : E2 (fX7_behind 0 p n t v x) (fX8_behind 0 p n t v m) := by
  obtain ⟨⟨hs, hm, hI, hx, hxm⟩, -⟩ := id h
  have hP : cP C ≤ 6 := hI.1.1
  have hG : cG C ≤ 8 := hI.1.2
  have hc := hs.cl (b := 3) (Or.inl rfl)
  obtain ⟨a1, a2, a3, a4, a5, a6, a7, a8, a9, a10⟩ := hc.B
  obtain ⟨t1, t2, t3, t4, t5, t6, t7, t8, t9⟩ := hs.T
  have a0 := hm.O
  have gG := X0_hasGarment hc (n := cG C) hx.1.2.1 (by omega)
  have gP := X0_hasPerson hc (n := cP C) hx.1.1 (by omega)
  have mG := X8_isGarment hm (n := cG C) hxm.1.2.1 (by omega)
  have mP := X8_isOne hm (n := cP C) hxm.1.1 (by omega)
  obtain ⟨e1', e2', e3'⟩ := hm.a15
  unfold fX7_behind fX8_behind fX8_behind_b45 fX7_behind_b88 fX8_behind_b95
  simp only [chk_t t1, t2, t3, t4, t5, ob_s, chk_t a1, chk_t a0, gG, gP, mG, mP, ob_eta, X7_areDaysAndHour, X8_isDays, X8_isHour, W7_1, W8_1]
  by_cases e : isN p (cG C)
  · obtain ⟨k, hk, rfl⟩ := isN_ex e
    simp only [bI_t e, if_neg n10]
    by_cases e5 : isN v 2
    · simp only [bI_t e5, if_neg n10]
      by_cases e2 : isN n 61 ∧ isN t 12
      · have e3 := e2.1
        have e4 := e2.2
        simp only [bI_t e2, bI_t e3, bI_t e4, if_neg n10, e1', ob_s]
        obtain ⟨n, hn, rfl⟩ := isN_ex e3
        obtain ⟨t, ht, rfl⟩ := isN_ex e4
        obtain ⟨n1, n2⟩ := inb12 ht
        refine E2_of (r := (if v = 0 then nI (cHb (dnC C n) k t) else nI (cFm (dnC C n) k t))) (X := fun u => Fr (cCl 43) x u) (M := fun u => Fr cMx m u ∧ IsM u C) (Wp_c (X7_tryDays hs hx hI hn ht) (fun u hu => ?_)) (Wp_c (X8_keep hm (by decide) e2' e3') (fun w1 h1 => ?_)) (fun u v hu hv => h.same (hu.mono (fun a i q => cXx_43 q)) (hu.mono (fun a i q => by have := q.1; omega)) hv.1 hv.2)
        · obtain ⟨hf, D, hxD, hID, hag⟩ := hu
          have hsu := hf.shx hs
          have hcu := hsu.cl (b := 43) (Or.inr (Or.inl rfl))
          obtain ⟨u1, u2, u3, u4, u5, u6, u7, u8, u9, u10⟩ := hcu.B
          obtain ⟨t1, t2, t3, t4, t5, t6, t7, t8, t9⟩ := hsu.T
          have hgD : cG D = cG C := hag.1.2.1.trans (hnC_G C t n)
          obtain ⟨p1, p2, p3, p4, p5, p6, p7, p8, p9, p10⟩ := hcu.G (show k < 8 by omega)
          have hkD : k < cG D := by omega
          have hhb : cHb D k t = cHb (dnC C n) k t := by rw [(hag.2 k hkD).1, ((AgH_dn C ht n).2 k (by rw [dnC_G]; exact hk)).1]
          have hfm : cFm D k t = cFm (dnC C n) k t := by rw [(hag.2 k hkD).2, ((AgH_dn C ht n).2 k (by rw [dnC_G]; exact hk)).2]
          simp only [chk_t t1, t5, ob_s, chk_t u1, u3, chk_t u7, u8, chk_t p1, p2, p3, chk_t p4, p5, p6, chk_t p7, p8, chk_t p9, p10, chk_t n1, n2, ((hxD.2.2 k hkD).2 t ht).1, ((hxD.2.2 k hkD).2 t ht).2, hhb, hfm]
          by_cases v0 : v = 0
          · simp only [if_pos v0]
            exact Wp_of rfl ⟨rfl, hf⟩
          · simp only [if_neg v0]
            exact Wp_of rfl ⟨rfl, hf⟩
        · have hs1 := h1.1.shm hm
          have hx1 := hxm.fr h1.1 (fun a i q => by omega)
          have hf1 : Fr cMx m w1 := h1.1.mono (fun a i q => by unfold cMx; omega)
          simp only [chk_t hs1.O]
          refine Wp_c (X8_waits hs1 hx1 hI hn) (fun w2 h2 => ?_)
          have hs2 := h2.1.shm hs1
          have hID := CI_dnC hI n
          have hgN : cG (dnC C n) = cG C := dnC_G C n
          have hpN : cP (dnC C n) = cP C := dnC_P C n
          obtain ⟨e1'', -⟩ := hs2.a15
          have fin : ∀ r : Int32, Wp (ob (fX8_again 0 15 w2) (fun q25 => some (r, q25))) (fun q => q.1 = r ∧ Fr cMx m q.2 ∧ IsM q.2 C) := fun r => by
            refine Wp_c (X8_back hm hxm hI h1.2 hs1 h2.1 (fun i q => by unfold cMd at q; omega)) (fun u hu => Wp_of rfl ⟨rfl, (hf1.trans (h2.1.mono (fun a i q => cMx_d q))).trans (hu.1.mono (fun a i q => cMx_m q)), hu.2⟩)
          have hkD : k < cG (dnC C n) := by omega
          obtain ⟨c1, c2, c3⟩ := hs2.a9
          obtain ⟨d1, d2, d3⟩ := hs2.a10
          obtain ⟨m1, m2⟩ := inb96 (show k < 8 by omega) ht
          simp only [chk_t hs2.O, ob_s, e1'', c1, chk_t c2, c3, d1, chk_t d2, d3, tw_mul_nI, nI_add, chk_t m1, m2, ((h2.2.2.2 k hkD).2 t ht).1, ((h2.2.2.2 k hkD).2 t ht).2]
          by_cases v0 : v = 0
          · have fin := fin (nI (cHb (dnC C n) k t))
            simp only [if_pos v0]
            exact fin
          · have fin := fin (nI (cFm (dnC C n) k t))
            simp only [if_neg v0]
            exact fin
      · simp only [bI_f e2, if_true]
        by_cases e3 : isN n 61
        · have e4 : ¬ isN t 12 := fun q => e2 ⟨e3, q⟩
          simp only [bI_t e3, bI_f e4, if_neg n10, if_true]
          exact h.r6
        · simp only [bI_f e3, if_true]
          exact h.r6
    · simp only [bI_f e5, if_true]
      exact h.r5
  · simp only [bI_f e, if_true]
    exact h.r1
