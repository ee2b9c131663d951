/-! an hour: everybody does a deed, then garments learn -/
def lrC (C : Cl) (h k : Nat) : Nat × Nat := lrS (cKd C k) (cHb C k h) (cFm C k h) (doesS C (cWr C k - 1) h)
def hrC (C : Cl) (h n : Nat) : Cl := (C.1, C.2.1, C.2.2.1, C.2.2.2.1, C.2.2.2.2.1, C.2.2.2.2.2.1, C.2.2.2.2.2.2.1, C.2.2.2.2.2.2.2.1, C.2.2.2.2.2.2.2.2.1, (fun k i => if i = h ∧ k < n ∧ cWr C k ≠ 0 then (lrC C h k).1 else cHb C k i), (fun k i => if i = h ∧ k < n ∧ cWr C k ≠ 0 then (lrC C h k).2 else cFm C k i))
def hourC (C : Cl) (h : Nat) : Cl := hrC C h (cG C)
theorem hrC_0 (C : Cl) (h : Nat) : hrC C h 0 = C := by
  have e1 : (fun k i => if i = h ∧ k < 0 ∧ cWr C k ≠ 0 then (lrC C h k).1 else cHb C k i) = cHb C := funext fun k => funext fun i => if_neg (fun q => absurd q.2.1 (Nat.not_lt_zero k))
  have e2 : (fun k i => if i = h ∧ k < 0 ∧ cWr C k ≠ 0 then (lrC C h k).2 else cFm C k i) = cFm C := funext fun k => funext fun i => if_neg (fun q => absurd q.2.1 (Nat.not_lt_zero k))
  unfold hrC
  rw [e1, e2]
  rfl
theorem hrC_s0 (C : Cl) (h : Nat) {n : Nat} (e : cWr C n = 0) : hrC C h (n + 1) = hrC C h n := by
  have e1 : ∀ k, (k < n + 1 ∧ cWr C k ≠ 0) = (k < n ∧ cWr C k ≠ 0) := fun k => propext ⟨fun q => ⟨by
    rcases Nat.lt_or_ge k n with r | r
    · exact r
    · exact absurd (show cWr C k = 0 by rw [show k = n by omega]; exact e) q.2, q.2⟩, fun q => ⟨by omega, q.2⟩⟩
  unfold hrC
  simp only [e1]
theorem hrC_s1 (C : Cl) (h : Nat) {n : Nat} (e : cWr C n ≠ 0) : hrC C h (n + 1) = setH (hrC C h n) n h (lrC C h n).1 (lrC C h n).2 := by
  have key : ∀ (α : Type) (k i : Nat) (u : Nat → α) (v : α), (if i = h ∧ k < n + 1 ∧ cWr C k ≠ 0 then u k else v) = (if k = n ∧ i = h then u n else if i = h ∧ k < n ∧ cWr C k ≠ 0 then u k else v) := by
    intro α k i u v
    by_cases q : k = n ∧ i = h
    · rw [if_pos q, q.1, if_pos ⟨q.2, Nat.lt_succ_self n, e⟩]
    · rw [if_neg q]
      by_cases r : i = h ∧ k < n ∧ cWr C k ≠ 0
      · rw [if_pos r, if_pos ⟨r.1, by omega, r.2.2⟩]
      · rw [if_neg r, if_neg (fun s => r ⟨s.1, by
          have := s.2.1
          have := s.1
          omega, s.2.2⟩)]
  unfold hrC setH
  simp only [key Nat _ _ (fun k => (lrC C h k).1), key Nat _ _ (fun k => (lrC C h k).2)]
  rfl
theorem hrC_hb (C : Cl) (h n i : Nat) : cHb (hrC C h n) n i = cHb C n i := if_neg (fun q => Nat.lt_irrefl n q.2.1)
theorem hrC_fm (C : Cl) (h n i : Nat) : cFm (hrC C h n) n i = cFm C n i := if_neg (fun q => Nat.lt_irrefl n q.2.1)
theorem lrC_le {C : Cl} (hI : CI C) {h k : Nat} (hh : h < 12) (hk : k < cG C) (hw : cWr C k ≠ 0) : (lrC C h k).1 ≤ 9 ∧ (lrC C h k).2 ≤ 9 ∧ ((lrC C h k).1 = 0 ↔ (lrC C h k).2 = 0) := by
  obtain ⟨h1, h2, h3⟩ := (hI.2.2 k hk).2 h hh
  have hl := (hI.2.2 k hk).1.2.2
  exact lrS_le h1 h2 h3 (does_le hI (by omega) hh)
theorem CI_hrC {C : Cl} (hI : CI C) {h : Nat} (hh : h < 12) (n : Nat) : CI (hrC C h n) := by
  refine ⟨hI.1, hI.2.1, fun k hk => ⟨(hI.2.2 k hk).1, fun i hi => ?_⟩⟩
  change (if i = h ∧ k < n ∧ cWr C k ≠ 0 then (lrC C h k).1 else cHb C k i) ≤ 9 ∧ (if i = h ∧ k < n ∧ cWr C k ≠ 0 then (lrC C h k).2 else cFm C k i) ≤ 9 ∧ ((if i = h ∧ k < n ∧ cWr C k ≠ 0 then (lrC C h k).1 else cHb C k i) = 0 ↔ (if i = h ∧ k < n ∧ cWr C k ≠ 0 then (lrC C h k).2 else cFm C k i) = 0)
  by_cases e : i = h ∧ k < n ∧ cWr C k ≠ 0
  · simp only [if_pos e]
    exact lrC_le hI hh hk e.2.2
  · simp only [if_neg e]
    exact (hI.2.2 k hk).2 i hi
theorem CI_hourC {C : Cl} (hI : CI C) {h : Nat} (hh : h < 12) : CI (hourC C h) := CI_hrC hI hh _
/-- whether one of the first n learns something -/
def lnB (C : Cl) (h : Nat) : Nat → Bool
  | 0 => false
  | n + 1 => lnB C h n || (decide (cWr C n ≠ 0) && !decide ((lrC C h n).1 = cHb C n h ∧ (lrC C h n).2 = cFm C n h))
theorem lnB_s (C : Cl) (h n : Nat) : lnB C h (n + 1) = (lnB C h n || (decide (cWr C n ≠ 0) && !decide ((lrC C h n).1 = cHb C n h ∧ (lrC C h n).2 = cFm C n h))) := rfl
theorem IsX.fr {S : Nat → Nat → Prop} {w w' : Wd} {b : Nat} {C : Cl} (hx : IsX w b C) (hI : CI C) (hf : Fr S w w') (hS : ∀ a i, S a i → ¬ (a = b ∧ 3 ≤ i ∧ i ≤ 6) ∧ ¬ (b + 4 ≤ a ∧ a < b + 40)) : IsX w' b C := by
  have hP : cP C ≤ 6 := hI.1.1
  have hG : cG C ≤ 8 := hI.1.2
  refine ⟨⟨?_, ?_, ?_, ?_⟩, fun q hq => ?_, fun j hj => ?_⟩
  · rw [hf.at (fun r => (hS _ _ r).1 ⟨rfl, by decide, by decide⟩)]; exact hx.1.1
  · rw [hf.at (fun r => (hS _ _ r).1 ⟨rfl, by decide, by decide⟩)]; exact hx.1.2.1
  · rw [hf.at (fun r => (hS _ _ r).1 ⟨rfl, by decide, by decide⟩)]; exact hx.1.2.2.1
  · rw [hf.at (fun r => (hS _ _ r).1 ⟨rfl, by decide, by decide⟩)]; exact hx.1.2.2.2
  · obtain ⟨h1, h2⟩ := hx.2.1 q hq
    refine ⟨?_, fun i hi => ?_⟩
    · rw [hf.at (fun r => (hS _ _ r).2 (by unfold pA; omega))]; exact h1
    · rw [hf.at (fun r => (hS _ _ r).2 (by unfold pA; omega))]; exact h2 i hi
  · obtain ⟨⟨h1, h2, h3⟩, h4⟩ := hx.2.2 j hj
    refine ⟨⟨?_, ?_, ?_⟩, fun i hi => ⟨?_, ?_⟩⟩
    · rw [hf.at (fun r => (hS _ _ r).2 (by unfold gA; omega))]; exact h1
    · rw [hf.at (fun r => (hS _ _ r).2 (by unfold gA; omega))]; exact h2
    · rw [hf.at (fun r => (hS _ _ r).2 (by unfold gA; omega))]; exact h3
    · rw [hf.at (fun r => (hS _ _ r).2 (by unfold gA; omega))]; exact (h4 i hi).1
    · rw [hf.at (fun r => (hS _ _ r).2 (by unfold gA; omega))]; exact (h4 i hi).2
theorem IsM.fr {S : Nat → Nat → Prop} {w w' : Wd} {C : Cl} (hx : IsM w C) (hf : Fr S w w') (hS : ∀ a i, S a i → ¬ (a = 0 ∧ (i = 3 ∨ i = 6 ∨ i = 12 ∨ i = 13)) ∧ ¬ (4 ≤ a ∧ a < 11)) : IsM w' C := by
  refine ⟨⟨?_, ?_, ?_, ?_⟩, fun q hq => ?_, fun j hj => ?_⟩
  · rw [hf.at (fun r => (hS _ _ r).1 (by omega))]; exact hx.1.1
  · rw [hf.at (fun r => (hS _ _ r).1 (by omega))]; exact hx.1.2.1
  · rw [hf.at (fun r => (hS _ _ r).1 (by omega))]; exact hx.1.2.2.1
  · rw [hf.at (fun r => (hS _ _ r).1 (by omega))]; exact hx.1.2.2.2
  · obtain ⟨h1, h2⟩ := hx.2.1 q hq
    refine ⟨?_, fun i hi => ?_⟩
    · rw [hf.at (fun r => (hS _ _ r).2 (by omega))]; exact h1
    · rw [hf.at (fun r => (hS _ _ r).2 (by omega))]; exact h2 i hi
  · obtain ⟨⟨h1, h2, h3⟩, h4⟩ := hx.2.2 j hj
    refine ⟨⟨?_, ?_, ?_⟩, fun i hi => ⟨?_, ?_⟩⟩
    · rw [hf.at (fun r => (hS _ _ r).2 (by omega))]; exact h1
    · rw [hf.at (fun r => (hS _ _ r).2 (by omega))]; exact h2
    · rw [hf.at (fun r => (hS _ _ r).2 (by omega))]; exact h3
    · rw [hf.at (fun r => (hS _ _ r).2 (by omega))]; exact (h4 i hi).1
    · rw [hf.at (fun r => (hS _ _ r).2 (by omega))]; exact (h4 i hi).2
theorem X0_learnL {w : Wd} {b : Nat} {C : Cl} (hc : ClS w b) (hx : IsX w b C) (hI : CI C) {h : Nat} (hh : h < 12) (hd : ∀ p, p < cP C → wI w (b + 3) p = nI (doesS C p h)) :
    Wp (fX0_passHour_L46 b (nI h) (0, 0, w)) (fun q => q.1 = (if lnB C h (cG C) then 1 else 0) ∧ Fr (cCl b) w q.2 ∧ IsX q.2 b (hourC C h) ∧ ∀ p, p < cP C → wI q.2 (b + 3) p = nI (doesS C p h)) := by
  have hP : cP C ≤ 6 := hI.1.1
  have h8 : cG C ≤ 8 := hI.1.2
  unfold fX0_passHour_L46
  refine it_w2 (fun i x v => x = (if lnB C h i then 1 else 0) ∧ Fr (cCl b) w v ∧ IsX v b (hrC C h i) ∧ ∀ p, p < cP C → wI v (b + 3) p = nI (doesS C p h)) (cG C) (by omega) ⟨rfl, Fr.refl w, by rw [hrC_0]; exact hx, hd⟩ (fun i x v hi hv => ?_) (fun x v hv => ?_)
  · obtain ⟨rfl, hf, hxv, hdv⟩ := hv
    have hcv := hf.cl hc
    have hIv := CI_hrC hI hh i
    obtain ⟨a1, a2, a3, a4, a5, a6, a7, a8, a9, a10⟩ := hcv.B
    obtain ⟨p1, p2, p3, p4, p5, p6, p7, p8, p9, p10⟩ := hcv.G (show i < 8 by omega)
    have e4 : wI v b 4 = nI (cG C) := hxv.1.2.1
    have e3 : wI v b 3 = nI (cP C) := hxv.1.1
    have hle : (nI (cG C) ≤ nI i) = (cG C ≤ i) := nI_le_iff (by omega) (by omega)
    have hgi : i < cG (hrC C h i) := hi
    have hwr : wI v (gA b i) 4 = wv (cWr C i) := (hxv.g hgi).1.2.2
    have hkd : wI v (gA b i) 2 = nI (cKd C i) := (hxv.g hgi).1.1
    have hhb : wI v (gA b i + 1) h = nI (cHb C i h) := by
      rw [((hxv.g hgi).2 h hh).1, hrC_hb]
    have hfm : wI v (gA b i + 2) h = nI (cFm C i h) := by
      rw [((hxv.g hgi).2 h hh).2, hrC_fm]
    obtain ⟨⟨k6, -, w6⟩, hC⟩ := hI.2.2 i hi
    obtain ⟨l1, l2, l3⟩ := hC h hh
    unfold fX0_passHour_L46_body
    simp only [chk_t a1, e4, hle, if_neg (Nat.not_le.mpr hi), a3, ob_s, chk_t a7, a8, chk_t p1, p2, p3, chk_t p4, hwr, bnd_e, X0_hasPerson hcv e3 (by omega)]
    by_cases e : cWr C i = 0
    · have e0 : bI (isN (wv (cWr C i)) (cP C)) = 0 := bI_f (by rw [e, wv_0]; intro q; exact absurd q.1 (by decide))
      simp only [e0, if_true, fX0_passHour_b96, Wp_l]
      refine ⟨nI_1 i, ?_, hf, by rw [hrC_s0 C h e]; exact hxv, hdv⟩
      rw [lnB_s, e]
      simp
    · obtain ⟨p, hp⟩ : ∃ p, cWr C i = p + 1 := ⟨cWr C i - 1, by omega⟩
      have hpP : p < cP C := by omega
      have e0 : bI (isN (nI p) (cP C)) = 1 := bI_t (isN_nI hpP (by omega))
      obtain ⟨q1, q2⟩ := inb6 (show p < 6 by omega)
      have hdp := hdv p hpP
      have hlr : lrS (cKd C i) (cHb C i h) (cFm C i h) (doesS C p h) = lrC C h i := by unfold lrC; rw [hp]; rfl
      have hl := X2_learn (d := doesS C p h) (hcv.2.2 i (by omega)).2 hkd (by omega) hh hhb hfm l1 l2 l3 (does_le hI hpP hh)
      rw [hlr] at hl
      have hl' : fX2_learn (gA b i) (nI h) (nI (doesS C p h)) v = some (if (lrC C h i).1 = cHb C i h ∧ (lrC C h i).2 = cFm C i h then 0 else 1, sI (sI v (gA b i + 1) h (nI (lrC C h i).1)) (gA b i + 2) h (nI (lrC C h i).2)) := hl
      simp only [e0, if_neg n10, hp, wv_s, a4, chk_t a9, a10, chk_t q1, q2, hdp, hl', ob_s]
      have hfr : Fr (cCl b) w (sI (sI v (gA b i + 1) h (nI (lrC C h i).1)) (gA b i + 2) h (nI (lrC C h i).2)) := (hf.sI _ ⟨by unfold gA; omega, by unfold gA; omega⟩).sI _ ⟨by unfold gA; omega, by unfold gA; omega⟩
      have hxn : IsX (sI (sI v (gA b i + 1) h (nI (lrC C h i).1)) (gA b i + 2) h (nI (lrC C h i).2)) b (hrC C h (i + 1)) := by
        rw [hrC_s1 C h e]
        exact IsX_setH hxv hIv (by omega) _ _
      have hdn : ∀ p, p < cP C → wI (sI (sI v (gA b i + 1) h (nI (lrC C h i).1)) (gA b i + 2) h (nI (lrC C h i).2)) (b + 3) p = nI (doesS C p h) := fun p hp => by
        rw [wI_n (by unfold gA; omega), wI_n (by unfold gA; omega)]
        exact hdv p hp
      by_cases r : (lrC C h i).1 = cHb C i h ∧ (lrC C h i).2 = cFm C i h
      · simp only [if_pos r, if_true, fX0_passHour_b96, Wp_l]
        refine ⟨nI_1 i, ?_, hfr, hxn, hdn⟩
        rw [lnB_s]
        simp [r]
      · simp only [if_neg r, if_neg n10, fX0_passHour_b96, Wp_l]
        refine ⟨nI_1 i, ?_, hfr, hxn, hdn⟩
        rw [lnB_s]
        simp [r, e]
  · obtain ⟨rfl, hf, hxv, hdv⟩ := hv
    have hcv := hf.cl hc
    obtain ⟨a1, -⟩ := hcv.B
    have e4 : wI v b 4 = nI (cG C) := hxv.1.2.1
    have hle : (nI (cG C) ≤ nI (cG C)) = (cG C ≤ cG C) := nI_le_iff (by omega) (by omega)
    unfold fX0_passHour_L46_body
    simp only [chk_t a1, e4, hle, Nat.le_refl, if_true]
    refine Wp_wr ?_
    cases hb : lnB C h (cG C)
    · exact Wp_of (chk_t (Or.inl rfl) _) ⟨rfl, hf, hxv, hdv⟩
    · exact Wp_of (chk_t (Or.inr rfl) _) ⟨rfl, hf, hxv, hdv⟩
theorem X0_passHour {w : Wd} {b : Nat} {C : Cl} (hc : ClS w b) (hx : IsX w b C) (hI : CI C) {h : Nat} (hh : h < 12) :
    Wp (fX0_passHour b (nI h) w) (fun q => q.1 = (if lnB C h (cG C) then 1 else 0) ∧ Fr (cCl b) w q.2 ∧ IsX q.2 b (hourC C h) ∧ ∀ p, p < cP C → wI q.2 (b + 3) p = nI (doesS C p h)) := by
  have hP : cP C ≤ 6 := hI.1.1
  unfold fX0_passHour fX0_passHour_L2
  refine it_w1 (fun i v => Fr (fun x _ => x = b + 3) w v ∧ ∀ p, p < i → wI v (b + 3) p = nI (doesS C p h)) (cP C) (by omega) ⟨Fr.refl w, fun p q => absurd q (Nat.not_lt_zero p)⟩ (fun i v hi hv => ?_) (fun v hv => ?_)
  · obtain ⟨hf, hdv⟩ := hv
    have hcv := hf.cl hc
    have hxv := hx.fr hI hf (fun a i q => by omega)
    obtain ⟨a1, a2, a3, a4, a5, a6, a7, a8, a9, a10⟩ := hcv.B
    obtain ⟨p1, p2, p3, p4, p5, p6, p7⟩ := hcv.P (show i < 6 by omega)
    have hle : (nI (cP C) ≤ nI i) = (cP C ≤ i) := nI_le_iff (by omega) (by omega)
    have hwb := X0_wornBy hcv hxv hI (show i + 1 < 100 by omega)
    rw [wv_s] at hwb
    have hm := bN_256 (fun g => decide (cWr C g = i + 1)) hI.1.2
    have hwl := (hI.2.1 i hi).1
    have hdd := X0_deedIn hcv hxv hI (p := i) (h := h) (m := bN (fun g => decide (cWr C g = i + 1)) (cG C)) (will := cWl C i) hi hh hm (by omega)
    have hds : deedS C i h (fun g => (bN (fun g => decide (cWr C g = i + 1)) (cG C)).testBit g) (cWl C i) = doesS C i h := by
      unfold doesS
      refine deed_congr (fun g hg => ?_)
      rw [bN_bit, decide_eq_true hg, Bool.true_and]
    rw [hds] at hdd
    unfold fX0_passHour_L2_body
    simp only [chk_t a1, hxv.1.1, hle, if_neg (Nat.not_le.mpr hi), a4, ob_s, hwb, a2, chk_t a5, a6, chk_t p1, p2, p3, chk_t p4, (hxv.2.1 i hi).1, hdd, chk_t a9, a10, bnd_e, Wp_l]
    refine ⟨nI_1 i, hf.sI _ rfl, fun p hp => ?_⟩
    by_cases e : p = i
    · subst e
      exact wI_e _ _ _ _
    · rw [wI_n (by omega)]
      exact hdv p (by omega)
  · obtain ⟨hf, hdv⟩ := hv
    have hcv := hf.cl hc
    have hxv := hx.fr hI hf (fun a i q => by omega)
    obtain ⟨a1, -⟩ := hcv.B
    have hle : (nI (cP C) ≤ nI (cP C)) = (cP C ≤ cP C) := nI_le_iff (by omega) (by omega)
    unfold fX0_passHour_L2_body
    simp only [chk_t a1, hxv.1.1, hle, Nat.le_refl, if_true]
    refine Wp_wr (Wp_m (X0_learnL hcv hxv hI hh hdv) (fun q h => ⟨h.1, (hf.mono (fun a i q => ⟨by omega, by omega⟩)).trans h.2.1, h.2.2⟩))
