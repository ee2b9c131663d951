/-! a day -/
def dcS (C : Cl) (h : Nat) : Nat := cntN (fun p => decide (doesS C p h ≠ 0)) (cP C)
def dyC (C : Cl) : Nat → Cl
  | 0 => C
  | n + 1 => hourC (dyC C n) n
def dsS (C : Cl) : Nat → Nat
  | 0 => 0
  | n + 1 => dsS C n + dcS (dyC C n) n
def setD (C : Cl) (y : Int32) : Cl := (C.1, C.2.1, C.2.2.1, y, C.2.2.2.2)
def dayC (C : Cl) : Cl := setD (dyC C 12) (cDy C + 1)
theorem dyC_P (C : Cl) : ∀ n, cP (dyC C n) = cP C
  | 0 => rfl
  | n + 1 => dyC_P C n
theorem dyC_G (C : Cl) : ∀ n, cG (dyC C n) = cG C
  | 0 => rfl
  | n + 1 => dyC_G C n
theorem dyC_D (C : Cl) : ∀ n, cDy (dyC C n) = cDy C
  | 0 => rfl
  | n + 1 => dyC_D C n
theorem CI_dyC {C : Cl} (hI : CI C) : ∀ n, n ≤ 12 → CI (dyC C n)
  | 0, _ => hI
  | n + 1, h => CI_hourC (CI_dyC hI n (by omega)) (by omega)
theorem CI_setD {C : Cl} (hI : CI C) (y : Int32) : CI (setD C y) := hI
theorem CI_dayC {C : Cl} (hI : CI C) : CI (dayC C) := CI_setD (CI_dyC hI 12 (Nat.le_refl 12)) _
theorem IsX.setD {w w' : Wd} {b : Nat} {C : Cl} (hx : IsX w b C) (hI : CI C) (y : Int32) (hf : Fr (fun a i => a = b ∧ i = 6) w w') (h6 : wI w' b 6 = y) : IsX w' b (setD C y) := by
  have hP : cP C ≤ 6 := hI.1.1
  have hG : cG C ≤ 8 := hI.1.2
  refine ⟨⟨?_, ?_, ?_, h6⟩, fun q hq => ?_, fun j hj => ?_⟩
  · rw [hf.at (by omega)]; exact hx.1.1
  · rw [hf.at (by omega)]; exact hx.1.2.1
  · rw [hf.at (by omega)]; exact hx.1.2.2.1
  · obtain ⟨h1, h2⟩ := hx.2.1 q hq
    refine ⟨?_, fun i hi => ?_⟩
    · rw [hf.at (by unfold pA; omega)]; exact h1
    · rw [hf.at (by unfold pA; omega)]; exact h2 i hi
  · obtain ⟨⟨h1, h2, h3⟩, h4⟩ := hx.2.2 j hj
    refine ⟨⟨?_, ?_, ?_⟩, fun i hi => ⟨?_, ?_⟩⟩
    · rw [hf.at (by unfold gA; omega)]; exact h1
    · rw [hf.at (by unfold gA; omega)]; exact h2
    · rw [hf.at (by unfold gA; omega)]; exact h3
    · rw [hf.at (by unfold gA; omega)]; exact (h4 i hi).1
    · rw [hf.at (by unfold gA; omega)]; exact (h4 i hi).2
theorem IsM.setD {w w' : Wd} {C : Cl} (hx : IsM w C) (y : Int32) (hf : Fr (fun a i => a = 0 ∧ i = 12) w w') (h6 : wI w' 0 12 = y) : IsM w' (setD C y) := by
  refine ⟨⟨?_, ?_, ?_, h6⟩, fun q hq => ?_, fun j hj => ?_⟩
  · rw [hf.at (by omega)]; exact hx.1.1
  · rw [hf.at (by omega)]; exact hx.1.2.1
  · rw [hf.at (by omega)]; exact hx.1.2.2.1
  · obtain ⟨h1, h2⟩ := hx.2.1 q hq
    refine ⟨?_, fun i hi => ?_⟩
    · rw [hf.at (by omega)]; exact h1
    · rw [hf.at (by omega)]; exact h2 i hi
  · obtain ⟨⟨h1, h2, h3⟩, h4⟩ := hx.2.2 j hj
    refine ⟨⟨?_, ?_, ?_⟩, fun i hi => ⟨?_, ?_⟩⟩
    · rw [hf.at (by omega)]; exact h1
    · rw [hf.at (by omega)]; exact h2
    · rw [hf.at (by omega)]; exact h3
    · rw [hf.at (by omega)]; exact (h4 i hi).1
    · rw [hf.at (by omega)]; exact (h4 i hi).2
theorem X0_passDay {w : Wd} {b : Nat} {C : Cl} (hc : ClS w b) (hx : IsX w b C) (hI : CI C) : Wp (fX0_passDay b w) (fun q => q.1 = nI (dsS C 12) ∧ Fr (cCl b) w q.2 ∧ IsX q.2 b (dayC C)) := by
  have hP : cP C ≤ 6 := hI.1.1
  unfold fX0_passDay fX0_passDay_L4
  refine it_w2 (fun i x v => x = nI (dsS C i) ∧ Fr (cCl b) w v ∧ IsX v b (dyC C i)) 12 (by decide) ⟨rfl, Fr.refl w, hx⟩ (fun i x v hi hv => ?_) (fun x v hv => ?_)
  · obtain ⟨rfl, hf, hxv⟩ := hv
    have hcv := hf.cl hc
    have hIv := CI_dyC hI i (by omega)
    obtain ⟨a1, -⟩ := hcv.B
    unfold fX0_passDay_L4_body
    simp only [leL12 (show i < 2147483648 by omega), if_neg (Nat.not_le.mpr hi), chk_t a1]
    refine Wp_c (X0_passHour hcv hxv hIv hi) (fun q hq => ?_)
    obtain ⟨-, hf2, hx2, hd2⟩ := hq
    have hc2 := hf2.cl hcv
    have hPn : cP (dyC C i) = cP C := dyC_P C i
    obtain ⟨a1, a2, a3, a4, a5, a6, a7, a8, a9, a10⟩ := hc2.B
    have e3 : wI q.2 b 3 = nI (cP C) := by rw [← hPn]; exact hx2.1.1
    unfold fX0_passDay_L18
    refine it_w2 (fun p y u => y = nI (dsS C i + cntN (fun p => decide (doesS (dyC C i) p i ≠ 0)) p) ∧ u = q.2) (cP C) (by omega) ⟨rfl, rfl⟩ (fun p y u hp hu => ?_) (fun y u hu => ?_)
    · obtain ⟨rfl, rfl⟩ := hu
      have hle : (nI (cP C) ≤ nI p) = (cP C ≤ p) := nI_le_iff (by omega) (by omega)
      obtain ⟨q1, q2⟩ := inb6 (show p < 6 by omega)
      have hd := hd2 p (by omega)
      have hl := does_le hIv (h := i) (p := p) (by omega) hi
      unfold fX0_passDay_L18_body
      simp only [chk_t a1, e3, hle, if_neg (Nat.not_le.mpr hp), a4, ob_s, chk_t a9, a10, chk_t q1, q2, hd, eqL0 (show doesS (dyC C i) p i < 2147483648 by omega)]
      by_cases e : doesS (dyC C i) p i = 0
      · simp only [if_pos e, fX0_passDay_b38, Wp_l]
        refine ⟨nI_1 p, ?_, trivial⟩
        rw [cntN_s, if_neg (by simp [e]), Nat.add_zero]
      · simp only [if_neg e, fX0_passDay_b38, Wp_l]
        refine ⟨nI_1 p, ?_, trivial⟩
        rw [cntN_s, if_pos (by simp [e])]
        exact nI_1 _
    · obtain ⟨rfl, rfl⟩ := hu
      have hle : (nI (cP C) ≤ nI (cP C)) = (cP C ≤ cP C) := nI_le_iff (by omega) (by omega)
      unfold fX0_passDay_L18_body
      simp only [chk_t a1, e3, hle, Nat.le_refl, if_true]
      refine Wp_wr ?_
      rw [Wp_l]
      refine ⟨nI_1 i, ?_, hf.trans hf2, hx2⟩
      show _ = nI (dsS C i + dcS (dyC C i) i)
      unfold dcS
      rw [hPn]
  · obtain ⟨rfl, hf, hxv⟩ := hv
    have hcv := hf.cl hc
    have hIv := CI_dyC hI 12 (by omega)
    obtain ⟨a1, -⟩ := hcv.B
    unfold fX0_passDay_L4_body
    simp only [show (12 : Int32) ≤ nI 12 by decide, if_true, chk_t a1, bnd_e]
    refine Wp_wr (Wp_of rfl ⟨rfl, hf.sI _ ⟨by omega, by omega⟩, ?_⟩)
    refine hxv.setD hIv _ (Fr_sI _ ⟨rfl, rfl⟩) ?_
    rw [wI_e, hxv.1.2.2.2, dyC_D]
/-! in the model -/
def cMh (N x i : Nat) : Prop := (x = 9 ∨ x = 10) ∧ i < N
def cMd (N x i : Nat) : Prop := ((x = 9 ∨ x = 10) ∧ i < N) ∨ x = 16 ∨ (x = 0 ∧ i = 12)
theorem X8_learnL {w : Wd} {C : Cl} {N : Nat} (hN : 12 * cG C ≤ N) (hc : ShM w) (hx : IsM w C) (hI : CI C) {h : Nat} (hh : h < 12) (hd : ∀ p, p < cP C → wI w 16 p = nI (doesS C p h)) (x : Int32) {P : Int32 × Wd → Prop} {I : Int32 × Int32 × Wd → Prop} (hP : ∀ v, Fr (cMh N) w v → IsM v (hourC C h) → I (x, nI (h + 1), v)) :
    Wp (fX8_day_L52 0 x (nI h) (0, w)) (lp I P) := by
  have hP6 : cP C ≤ 6 := hI.1.1
  have h8 : cG C ≤ 8 := hI.1.2
  unfold fX8_day_L52
  refine it_w1 (fun i v => Fr (cMh N) w v ∧ IsM v (hrC C h i)) (cG C) (by omega) ⟨Fr.refl w, by rw [hrC_0]; exact hx⟩ (fun i v hi hv => ?_) (fun v hv => ?_)
  · obtain ⟨hf, hxv⟩ := hv
    have hs := hf.shm hc
    have hIv := CI_hrC hI hh i
    have a0 := hs.O
    have e6 : wI v 0 6 = nI (cG C) := hxv.1.2.1
    have hle : (nI (cG C) ≤ nI i) = (cG C ≤ i) := nI_le_iff (by omega) (by omega)
    obtain ⟨b1, b2⟩ := inb8 (show i < 8 by omega)
    obtain ⟨g1, g2, g3⟩ := hs.a8
    obtain ⟨d1, d2, d3⟩ := hs.a16
    have hgi : i < cG (hrC C h i) := hi
    have hwr : wI v 8 i = wv (cWr C i) := (hxv.g hgi).1.2.2
    have hkd : wI v 6 i = nI (cKd C i) := (hxv.g hgi).1.1
    have hhb : wI v 9 (12 * i + h) = nI (cHb C i h) := by
      rw [((hxv.g hgi).2 h hh).1, hrC_hb]
    have hfm : wI v 10 (12 * i + h) = nI (cFm C i h) := by
      rw [((hxv.g hgi).2 h hh).2, hrC_fm]
    obtain ⟨⟨k6, -, w6⟩, hC⟩ := hI.2.2 i hi
    obtain ⟨l1, l2, l3⟩ := hC h hh
    unfold fX8_day_L52_body
    simp only [chk_t a0, e6, hle, if_neg (Nat.not_le.mpr hi), g1, ob_s, chk_t g2, g3, chk_t b1, b2, hwr, wv_m1 (show cWr C i < 2147483648 by omega)]
    by_cases e : cWr C i = 0
    · simp only [if_pos e, fX8_day_b87, Wp_l]
      exact ⟨nI_1 i, hf, by rw [hrC_s0 C h e]; exact hxv⟩
    · obtain ⟨p, hp⟩ : ∃ p, cWr C i = p + 1 := ⟨cWr C i - 1, by omega⟩
      have hpP : p < cP C := by omega
      obtain ⟨q1, q2⟩ := inb6 (show p < 6 by omega)
      have hdp : wI v 16 p = nI (doesS C p h) := by rw [hf.at (by unfold cMh; omega)]; exact hd p hpP
      have hlr : lrS (cKd C i) (cHb C i h) (cFm C i h) (doesS C p h) = lrC C h i := by unfold lrC; rw [hp]; rfl
      have hl := X8_learns (d := doesS C p h) hs (show i < 8 by omega) hkd (by omega) hh hhb hfm l1 l2 l3 (does_le hI hpP hh)
      rw [hlr] at hl
      simp only [if_neg e, hp, wv_s, d1, ob_s, chk_t d2, d3, chk_t q1, q2, hdp, hl, if_neg (Nat.succ_ne_zero p), fX8_day_b87, Wp_l]
      refine ⟨nI_1 i, (hf.sI _ ⟨Or.inl rfl, by omega⟩).sI _ ⟨Or.inr rfl, by omega⟩, ?_⟩
      rw [hrC_s1 C h e]
      exact IsM_setH hxv hh _ _
  · obtain ⟨hf, hxv⟩ := hv
    have a0 := (hf.shm hc).O
    have e6 : wI v 0 6 = nI (cG C) := hxv.1.2.1
    have hle : (nI (cG C) ≤ nI (cG C)) = (cG C ≤ cG C) := nI_le_iff (by omega) (by omega)
    unfold fX8_day_L52_body
    simp only [chk_t a0, e6, hle, Nat.le_refl, if_true]
    refine Wp_wr ?_
    rw [Wp_l, nI_1]
    exact hP v hf hxv
theorem X8_hourL {w : Wd} {C : Cl} {N : Nat} (hN : 12 * cG C ≤ N) (hc : ShM w) (hx : IsM w C) (hI : CI C) {h : Nat} (hh : h < 12) (n : Nat) {P : Int32 × Wd → Prop} {I : Int32 × Int32 × Wd → Prop} (hP : ∀ v, Fr (cMd N) w v → IsM v (hourC C h) → I (nI (n + dcS C h), nI (h + 1), v)) :
    Wp (fX8_day_L12 0 (nI h) (nI n, 0, w)) (lp I P) := by
  have hP6 : cP C ≤ 6 := hI.1.1
  unfold fX8_day_L12
  refine it_w2 (fun i x v => x = nI (n + cntN (fun p => decide (doesS C p h ≠ 0)) i) ∧ Fr (fun x _ => x = 16) w v ∧ ∀ p, p < i → wI v 16 p = nI (doesS C p h)) (cP C) (by omega) ⟨rfl, Fr.refl w, fun p q => absurd q (Nat.not_lt_zero p)⟩ (fun i x v hi hv => ?_) (fun x v hv => ?_)
  · obtain ⟨rfl, hf, hdv⟩ := hv
    have hs := hf.shm hc
    have hxv := hx.fr hf (fun a i q => by omega)
    have a0 := hs.O
    have hle : (nI (cP C) ≤ nI i) = (cP C ≤ i) := nI_le_iff (by omega) (by omega)
    obtain ⟨d1, d2, d3⟩ := hs.a16
    obtain ⟨q1, q2⟩ := inb6 (show i < 6 by omega)
    have hl := does_le hI hi hh
    have he : wI (sI v 16 i (nI (doesS C i h))) 16 i = nI (doesS C i h) := wI_e _ _ _ _
    unfold fX8_day_L12_body
    simp only [chk_t a0, hxv.1.1, hle, if_neg (Nat.not_le.mpr hi), d1, ob_s, X8_doesNow hs hxv hI hi hh, chk_t d2, d3, chk_t q1, q2, bnd_e, cO_s, cA_s, wR_sI, wn_sI, he, eqL0 (show doesS C i h < 2147483648 by omega)]
    have hd' : ∀ p, p < i + 1 → wI (sI v 16 i (nI (doesS C i h))) 16 p = nI (doesS C p h) := fun p hp => by
      by_cases e : p = i
      · subst e
        exact wI_e _ _ _ _
      · rw [wI_n (by omega)]
        exact hdv p (by omega)
    by_cases e : doesS C i h = 0
    · simp only [if_pos e, fX8_day_b44, Wp_l]
      refine ⟨nI_1 i, ?_, hf.sI _ rfl, hd'⟩
      rw [cntN_s, if_neg (by simp [e]), Nat.add_zero]
    · simp only [if_neg e, fX8_day_b44, Wp_l]
      refine ⟨nI_1 i, ?_, hf.sI _ rfl, hd'⟩
      rw [cntN_s, if_pos (by simp [e])]
      exact nI_1 _
  · obtain ⟨rfl, hf, hdv⟩ := hv
    have hs := hf.shm hc
    have hxv := hx.fr hf (fun a i q => by omega)
    have a0 := hs.O
    have hle : (nI (cP C) ≤ nI (cP C)) = (cP C ≤ cP C) := nI_le_iff (by omega) (by omega)
    unfold fX8_day_L12_body
    simp only [chk_t a0, hxv.1.1, hle, Nat.le_refl, if_true]
    refine Wp_wr (X8_learnL hN hs hxv hI hh hdv _ (fun u h1 h2 => hP u ((hf.mono (fun a i q => Or.inr (Or.inl q))).trans (h1.mono (fun a i q => Or.inl q))) h2))
theorem X8_day {w : Wd} {C : Cl} (hc : ShM w) (hx : IsM w C) (hI : CI C) : Wp (fX8_day 0 w) (fun q => q.1 = nI (dsS C 12) ∧ Fr (cMd (12 * cG C)) w q.2 ∧ IsM q.2 (dayC C)) := by
  unfold fX8_day fX8_day_L4
  refine it_w2 (fun i x v => x = nI (dsS C i) ∧ Fr (cMd (12 * cG C)) w v ∧ IsM v (dyC C i)) 12 (by decide) ⟨rfl, Fr.refl w, hx⟩ (fun i x v hi hv => ?_) (fun x v hv => ?_)
  · obtain ⟨rfl, hf, hxv⟩ := hv
    have hs := hf.shm hc
    unfold fX8_day_L4_body
    simp only [leL12 (show i < 2147483648 by omega), if_neg (Nat.not_le.mpr hi)]
    exact X8_hourL (Nat.le_of_eq (by rw [dyC_G])) hs hxv (CI_dyC hI i (by omega)) hi _ (fun u h1 h2 => ⟨rfl, rfl, hf.trans h1, h2⟩)
  · obtain ⟨rfl, hf, hxv⟩ := hv
    have a0 := (hf.shm hc).O
    unfold fX8_day_L4_body
    simp only [show (12 : Int32) ≤ nI 12 by decide, if_true, chk_t a0, bnd_e]
    refine Wp_wr (Wp_of rfl ⟨rfl, hf.sI _ (Or.inr (Or.inr ⟨rfl, rfl⟩)), ?_⟩)
    refine hxv.setD _ (Fr_sI _ ⟨rfl, rfl⟩) ?_
    rw [wI_e, hxv.1.2.2.2, dyC_D]
