/-! new ones -/
theorem J7_fill {w : Wd} {a n : Nat} (ha : isA w a 0) (hn : wn w a = n) (h5 : n < 100000) (x : Int32) : Wp (fJ7_fill_53178 a x w) (fun w' => Fr (fun y _ => y = a) w w' ∧ ∀ i, i < n → wI w' a i = x) := by
  unfold fJ7_fill_53178 fJ7_fill_53178_L5
  rw [chk_t ha, bnd_e, hn]
  refine it_w1 (fun i v => Fr (fun y _ => y = a) w v ∧ ∀ j, j < i → wI v a j = x) n h5 ⟨Fr.refl w, fun j h => absurd h (Nat.not_lt_zero j)⟩ (fun i v hi hv => ?_) (fun v hv => ?_)
  · obtain ⟨hf, hv⟩ := hv
    have hv2 : isA v a 0 ∧ wn v a = n := by rw [hf.eq]; exact ⟨ha, hn⟩
    have hle : (Int32.ofNat n ≤ nI i) = (n ≤ i) := nI_le_iff (by omega) (by omega)
    unfold fJ7_fill_53178_L5_body
    simp only [hle, if_neg (Nat.not_le.mpr hi), chk_t hv2.1, hv2.2, chk_t (inb_nI hi (show n < 2147483648 by omega)), nI_clamp (show i < 2 ^ 31 by omega), bnd_e, Wp_l]
    refine ⟨nI_1 i, hf.sI _ rfl, fun j hj => ?_⟩
    by_cases e : j = i
    · subst e
      exact wI_e _ _ _ _
    · rw [wI_n (by omega)]
      exact hv j (by omega)
  · have hle : (Int32.ofNat n ≤ nI n) = (n ≤ n) := nI_le_iff (by omega) (by omega)
    unfold fJ7_fill_53178_L5_body
    simp only [hle, Nat.le_refl, if_true]
    exact Wp_wr (Wp_of rfl hv)
theorem X2_start {w : Wd} {a : Nat} (hg : GaS w a) (k A : Nat) : Wp (fX2_start a (nI k) (nI A) w) (fun w' => Fr (cG3 a) w w' ∧ IsG w' a k A 0 (fun _ => 0) (fun _ => 0)) := by
  obtain ⟨g1, g2, g3, g4, g5, g6, g7, g8⟩ := id hg
  have o : isO w a 2 := ⟨by omega, g2⟩
  have i1 : isA w (a + 1) 0 := ⟨by omega, g5⟩
  unfold fX2_start
  simp only [chk_t o, bnd_e, cO_s, wR_sI, g3, ob_s]
  have f0 : Fr (cG3 a) w (sI (sI (sI w a 2 (nI k)) a 3 (nI A)) a 4 (-1)) := ((Fr_sI _ ⟨by omega, by omega⟩).sI _ ⟨by omega, by omega⟩).sI _ ⟨by omega, by omega⟩
  refine Wp_c (J7_fill (n := 12) (show isA (sI (sI (sI w a 2 (nI k)) a 3 (nI A)) a 4 (-1)) (a + 1) 0 from i1) g6 (by decide) 0) (fun q1 h1 => ?_)
  have hg1 : GaS q1 a := h1.1.ga hg
  obtain ⟨k1, k2, k3, k4, k5, k6, k7, k8⟩ := hg1
  simp only [chk_t (show isO q1 a 2 from ⟨by omega, k2⟩), k4, ob_s]
  refine Wp_c (J7_fill (n := 12) (show isA q1 (a + 2) 0 from ⟨k1, k7⟩) k8 (by decide) 0) (fun q2 h2 => ?_)
  refine Wp_of rfl ⟨(f0.trans (h1.1.mono (fun x i q => ⟨by omega, by omega⟩))).trans (h2.1.mono (fun x i q => ⟨by omega, by omega⟩)), ⟨?_, ?_, ?_⟩, fun i hi => ⟨?_, h2.2 i hi⟩⟩
  · rw [h2.1.at (by omega), h1.1.at (by omega), wI_n (by omega), wI_n (by omega), wI_e]
  · rw [h2.1.at (by omega), h1.1.at (by omega), wI_n (by omega), wI_e]
  · rw [h2.1.at (by omega), h1.1.at (by omega), wI_e]
    exact wv_0.symm
  · rw [h2.1.at (by omega)]
    exact h1.2 i hi
def newG (C : Cl) (k A : Nat) : Cl := setG C (cG C + 1) (cG C) k A 0 (fun _ => 0) (fun _ => 0)
theorem CI_newG {C : Cl} (hI : CI C) {k A : Nat} (h8 : cG C < 8) (hk : k ≤ 6) (hA : A ≤ 9) : CI (newG C k A) :=
  hI.setG h8 (Or.inr ⟨rfl, rfl⟩) ⟨⟨hk, hA, Nat.zero_le _⟩, fun h _ => ⟨Nat.zero_le 9, Nat.zero_le 9, Iff.rfl⟩⟩
theorem X0_addGarment {w : Wd} {b : Nat} {C : Cl} (hc : ClS w b) (hx : IsX w b C) (hI : CI C) (h8 : cG C < 8) (k A : Nat) : Wp (fX0_addGarment b (nI k) (nI A) w) (fun q => q.1 = nI (cG C) ∧ Fr (cCl b) w q.2 ∧ IsX q.2 b (newG C k A)) := by
  obtain ⟨a1, a2, a3, a4, a5, a6, a7, a8, a9, a10⟩ := hc.B
  obtain ⟨p1, p2, p3, p4, p5, p6, p7, p8, p9, p10⟩ := hc.G h8
  unfold fX0_addGarment
  simp only [chk_t a1, a3, ob_s, chk_t a7, a8, hx.1.2.1, chk_t p1, p2, p3, chk_t p4]
  refine Wp_c (X2_start (hc.2.2 _ h8).2 k A) (fun v h1 => ?_)
  have hcv := (h1.1.cl hc).B.1
  have e4 : wI v b 4 = nI (cG C) := by rw [h1.1.at (by unfold cG3; omega)]; exact hx.1.2.1
  simp only [chk_t hcv, bnd_e, e4]
  refine Wp_of rfl ⟨rfl, (h1.1.mono (fun x i q => ?_)).sI _ ⟨by omega, by omega⟩, ?_⟩
  · have := q.1
    have := q.2
    exact ⟨by unfold gA at *; omega, by unfold gA at *; omega⟩
  · refine hx.setG hI h8 (Or.inr ⟨rfl, rfl⟩) (Nat.lt_succ_self _) (fun a i q1 q2 => ?_) ?_ ?_
    · rw [wI_n q2]
      exact h1.1.at (by unfold cG3; unfold gA at q1; omega)
    · rw [wI_e]
      exact nI_1 _
    · obtain ⟨⟨r1, r2, r3⟩, r4⟩ := h1.2
      refine ⟨⟨?_, ?_, ?_⟩, fun i hi => ⟨?_, ?_⟩⟩
      · rw [wI_n (by unfold gA; omega)]; exact r1
      · rw [wI_n (by unfold gA; omega)]; exact r2
      · rw [wI_n (by unfold gA; omega)]; exact r3
      · rw [wI_n (by unfold gA; omega)]; exact (r4 i hi).1
      · rw [wI_n (by unfold gA; omega)]; exact (r4 i hi).2
theorem X8_newGarment {w : Wd} {C : Cl} (hc : ShM w) (hx : IsM w C) (h8 : cG C < 8) (k A : Nat) : Wp (fX8_newGarment 0 (nI k) (nI A) w) (fun q => q.1 = nI (cG C) ∧ Fr (fun x i => cH (cG C) x i ∨ (x = 0 ∧ i = 6)) w q.2 ∧ IsM q.2 (newG C k A)) := by
  have a0 := hc.O
  obtain ⟨b1, b2⟩ := inb8 h8
  obtain ⟨e1, e2, e3⟩ := hc.a6
  obtain ⟨f1, f2, f3⟩ := hc.a7
  obtain ⟨g1, g2, g3⟩ := hc.a8
  have hn : wI w 0 6 = nI (cG C) := hx.1.2.1
  have hn1 : wI (sI w 6 (cG C) (nI k)) 0 6 = nI (cG C) := by rw [wI_n (by omega)]; exact hn
  have hn2 : wI (sI (sI w 6 (cG C) (nI k)) 7 (cG C) (nI A)) 0 6 = nI (cG C) := by rw [wI_n (by omega)]; exact hn1
  unfold fX8_newGarment fX8_newGarment_L32
  simp only [chk_t a0, e1, ob_s, chk_t e2, e3, hn, chk_t b1, b2, bnd_e, cO_s, cA_s, wR_sI, wn_sI, f1, chk_t f2, f3, hn1, g1, chk_t g2, g3, hn2]
  refine it_w1 (fun i v => Fr (cH (cG C)) w v ∧ (wI v 6 (cG C) = nI k ∧ wI v 7 (cG C) = nI A ∧ wI v 8 (cG C) = wv 0) ∧ ∀ h, h < i → wI v 9 (12 * cG C + h) = nI 0 ∧ wI v 10 (12 * cG C + h) = nI 0) 12 (by decide) ⟨((Fr_sI _ (Or.inl ⟨Or.inl rfl, rfl⟩)).sI _ (Or.inl ⟨Or.inr (Or.inl rfl), rfl⟩)).sI _ (Or.inl ⟨Or.inr (Or.inr rfl), rfl⟩), ⟨?_, ?_, ?_⟩, fun h q => absurd q (Nat.not_lt_zero h)⟩ (fun i v hi hv => ?_) (fun v hv => ?_)
  · rw [wI_n (by omega), wI_n (by omega), wI_e]
  · rw [wI_n (by omega), wI_e]
  · rw [wI_e]
    exact wv_0.symm
  · obtain ⟨hf, hv1, hv2⟩ := hv
    have hs := hf.shm hc
    have a0 := hs.O
    obtain ⟨c1, c2, c3⟩ := hs.a9
    obtain ⟨d1, d2, d3⟩ := hs.a10
    obtain ⟨m1, m2⟩ := inb96 h8 hi
    have hn : wI v 0 6 = nI (cG C) := by rw [hf.at (by unfold cH; omega)]; exact hx.1.2.1
    have hn1 : wI (sI v 9 (12 * cG C + i) 0) 0 6 = nI (cG C) := by rw [wI_n (by omega)]; exact hn
    unfold fX8_newGarment_L32_body
    simp only [leL12 (show i < 2147483648 by omega), if_neg (Nat.not_le.mpr hi), chk_t a0, c1, ob_s, chk_t c2, c3, hn, tw_mul_nI, nI_add, chk_t m1, m2, bnd_e, cO_s, cA_s, wR_sI, wn_sI, d1, chk_t d2, d3, hn1, Wp_l]
    refine ⟨nI_1 i, (hf.sI _ (Or.inr ⟨Or.inl rfl, by omega, by omega⟩)).sI _ (Or.inr ⟨Or.inr rfl, by omega, by omega⟩), ⟨?_, ?_, ?_⟩, fun h hh => ⟨?_, ?_⟩⟩
    · rw [wI_n (by omega), wI_n (by omega)]; exact hv1.1
    · rw [wI_n (by omega), wI_n (by omega)]; exact hv1.2.1
    · rw [wI_n (by omega), wI_n (by omega)]; exact hv1.2.2
    · rw [wI_n (by omega)]
      by_cases e : h = i
      · subst e
        exact wI_e _ _ _ _
      · rw [wI_n (by omega)]
        exact (hv2 h (by omega)).1
    · by_cases e : h = i
      · subst e
        exact wI_e _ _ _ _
      · rw [wI_n (by omega), wI_n (by omega)]
        exact (hv2 h (by omega)).2
  · obtain ⟨hf, hv1, hv2⟩ := hv
    have hs := hf.shm hc
    have a0 := hs.O
    have hn : wI v 0 6 = nI (cG C) := by rw [hf.at (by unfold cH; omega)]; exact hx.1.2.1
    unfold fX8_newGarment_L32_body
    rw [if_pos (show (12 : Int32) ≤ nI 12 by decide), chk_t a0, bnd_e]
    refine Wp_wr (Wp_of rfl ⟨hn, (hf.mono (fun a i q => Or.inl q)).sI _ (Or.inr ⟨rfl, rfl⟩), ?_⟩)
    refine hx.setG (Or.inr ⟨rfl, rfl⟩) (fun a i q1 q2 q3 => ?_) ?_ ?_
    · rw [wI_n q3]
      exact hf.at q2
    · rw [wI_e, hn]
      exact nI_1 _
    · refine ⟨⟨?_, ?_, ?_⟩, fun i hi => ⟨?_, ?_⟩⟩
      · rw [wI_n (by omega)]; exact hv1.1
      · rw [wI_n (by omega)]; exact hv1.2.1
      · rw [wI_n (by omega)]; exact hv1.2.2
      · rw [wI_n (by omega)]; exact (hv2 i hi).1
      · rw [wI_n (by omega)]; exact (hv2 i hi).2
/-! people -/
def setP (C : Cl) (n p v : Nat) (o : Nat → Nat) : Cl := (n, C.2.1, C.2.2.1, C.2.2.2.1, upN (cWl C) p v, cKd C, cAa C, cWr C, upN (cOw C) p o, cHb C, cFm C)
theorem IsX.setP {w w' : Wd} {b : Nat} {C : Cl} (hx : IsX w b C) {p n v : Nat} {o : Nat → Nat} (h6 : n ≤ 6) (hn : n = cP C ∨ (n = cP C + 1 ∧ p = cP C)) (hp : p < n) (hf : ∀ a i, (a < pA b p ∨ pA b p + 1 < a) → ¬ (a = b ∧ i = 3) → wI w' a i = wI w a i) (h3 : wI w' b 3 = nI n) (hv : wI w' (pA b p) 1 = nI v) (ho : ∀ h, h < 12 → wI w' (pA b p + 1) h = nI (o h)) : IsX w' b (setP C n p v o) := by
  refine ⟨⟨h3, ?_, ?_, ?_⟩, fun q hq => ?_, fun j hj => ?_⟩
  · rw [hf _ _ (Or.inl (by unfold pA; omega)) (by omega)]; exact hx.1.2.1
  · rw [hf _ _ (Or.inl (by unfold pA; omega)) (by omega)]; exact hx.1.2.2.1
  · rw [hf _ _ (Or.inl (by unfold pA; omega)) (by omega)]; exact hx.1.2.2.2
  · change wI w' (pA b q) 1 = nI (upN (cWl C) p v q) ∧ ∀ h, h < 12 → wI w' (pA b q + 1) h = nI (upN (cOw C) p o q h)
    by_cases e : q = p
    · subst e
      simp only [upN_e]
      exact ⟨hv, ho⟩
    · simp only [upN_n _ _ e]
      have hq2 : q < n := hq
      obtain ⟨h1, h2⟩ := hx.2.1 q (by omega)
      refine ⟨?_, fun i hi => ?_⟩
      · rw [hf _ _ (by unfold pA; omega) (by unfold pA; omega)]; exact h1
      · rw [hf _ _ (by unfold pA; omega) (by unfold pA; omega)]; exact h2 i hi
  · obtain ⟨⟨h1, h2, h3⟩, h4⟩ := hx.2.2 j hj
    refine ⟨⟨?_, ?_, ?_⟩, fun i hi => ⟨?_, ?_⟩⟩
    · rw [hf _ _ (by unfold gA pA; omega) (by unfold gA; omega)]; exact h1
    · rw [hf _ _ (by unfold gA pA; omega) (by unfold gA; omega)]; exact h2
    · rw [hf _ _ (by unfold gA pA; omega) (by unfold gA; omega)]; exact h3
    · rw [hf _ _ (by unfold gA pA; omega) (by unfold gA; omega)]; exact (h4 i hi).1
    · rw [hf _ _ (by unfold gA pA; omega) (by unfold gA; omega)]; exact (h4 i hi).2
theorem IsM.setP {w w' : Wd} {C : Cl} (hx : IsM w C) {p n v : Nat} {o : Nat → Nat} (hn : n = cP C ∨ (n = cP C + 1 ∧ p = cP C)) (hf : ∀ a i, a < 11 → ¬ (a = 4 ∧ i = p) → ¬ (a = 5 ∧ 12 * p ≤ i ∧ i < 12 * p + 12) → ¬ (a = 0 ∧ i = 3) → wI w' a i = wI w a i) (h3 : wI w' 0 3 = nI n) (hv : wI w' 4 p = nI v) (ho : ∀ h, h < 12 → wI w' 5 (12 * p + h) = nI (o h)) : IsM w' (setP C n p v o) := by
  refine ⟨⟨h3, ?_, ?_, ?_⟩, fun q hq => ?_, fun j hj => ?_⟩
  · rw [hf _ _ (by decide) (by omega) (by omega) (by omega)]; exact hx.1.2.1
  · rw [hf _ _ (by decide) (by omega) (by omega) (by omega)]; exact hx.1.2.2.1
  · rw [hf _ _ (by decide) (by omega) (by omega) (by omega)]; exact hx.1.2.2.2
  · change wI w' 4 q = nI (upN (cWl C) p v q) ∧ ∀ h, h < 12 → wI w' 5 (12 * q + h) = nI (upN (cOw C) p o q h)
    by_cases e : q = p
    · subst e
      simp only [upN_e]
      exact ⟨hv, ho⟩
    · simp only [upN_n _ _ e]
      have hq2 : q < n := hq
      obtain ⟨h1, h2⟩ := hx.2.1 q (by omega)
      refine ⟨?_, fun i hi => ?_⟩
      · rw [hf _ _ (by decide) (by omega) (by omega) (by omega)]; exact h1
      · rw [hf _ _ (by decide) (by omega) (by omega) (by omega)]; exact h2 i hi
  · obtain ⟨⟨h1, h2, h3⟩, h4⟩ := hx.2.2 j hj
    refine ⟨⟨?_, ?_, ?_⟩, fun i hi => ⟨?_, ?_⟩⟩
    · rw [hf _ _ (by decide) (by omega) (by omega) (by omega)]; exact h1
    · rw [hf _ _ (by decide) (by omega) (by omega) (by omega)]; exact h2
    · rw [hf _ _ (by decide) (by omega) (by omega) (by omega)]; exact h3
    · rw [hf _ _ (by decide) (by omega) (by omega) (by omega)]; exact (h4 i hi).1
    · rw [hf _ _ (by decide) (by omega) (by omega) (by omega)]; exact (h4 i hi).2
theorem CI.setP {C : Cl} (hI : CI C) {p n v : Nat} {o : Nat → Nat} (h6 : n ≤ 6) (hn : n = cP C ∨ (n = cP C + 1 ∧ p = cP C)) (hv : v ≤ 9) (ho : ∀ h, h < 12 → o h ≤ 9) : CI (setP C n p v o) := by
  refine ⟨⟨h6, hI.1.2⟩, fun q hq => ?_, fun j hj => ?_⟩
  · change upN (cWl C) p v q ≤ 9 ∧ ∀ h, h < 12 → upN (cOw C) p o q h ≤ 9
    by_cases e : q = p
    · subst e
      simp only [upN_e]
      exact ⟨hv, ho⟩
    · simp only [upN_n _ _ e]
      have hq2 : q < n := hq
      exact hI.2.1 q (by omega)
  · obtain ⟨⟨h1, h2, h3⟩, h4⟩ := hI.2.2 j hj
    have h3' : cWr C j ≤ n := by omega
    exact ⟨⟨h1, h2, h3'⟩, h4⟩
def newP (C : Cl) (v : Nat) : Cl := setP C (cP C + 1) (cP C) v (fun _ => 0)
theorem CI_newP {C : Cl} (hI : CI C) {v : Nat} (h6 : cP C < 6) (hv : v ≤ 9) : CI (newP C v) := hI.setP h6 (Or.inr ⟨rfl, rfl⟩) hv (fun _ _ => Nat.zero_le 9)
theorem X4_start {w : Wd} {a : Nat} (hg : PeS w a) (x : Int32) : Wp (fX4_start a x w) (fun w' => Fr (fun y _ => a ≤ y ∧ y ≤ a + 1) w w' ∧ wI w' a 1 = x ∧ ∀ h, h < 12 → wI w' (a + 1) h = 0) := by
  obtain ⟨g1, g2, g3, g4, g5⟩ := id hg
  have o : isO w a 4 := ⟨by omega, g2⟩
  unfold fX4_start
  simp only [chk_t o, bnd_e, cO_s, wR_sI, g3, ob_s]
  refine Wp_c (J7_fill (n := 12) (show isA (sI w a 1 x) (a + 1) 0 from ⟨g1, g4⟩) g5 (by decide) 0) (fun q1 h1 => ?_)
  refine Wp_of rfl ⟨(Fr_sI (S := fun y _ => a ≤ y ∧ y ≤ a + 1) _ ⟨by omega, by omega⟩).trans (h1.1.mono (fun x i q => ⟨by omega, by omega⟩)), ?_, h1.2⟩
  rw [h1.1.at (by omega), wI_e]
theorem X0_addPerson {w : Wd} {b : Nat} {C : Cl} (hc : ClS w b) (hx : IsX w b C) (h6 : cP C < 6) (v : Nat) : Wp (fX0_addPerson b (nI v) w) (fun q => q.1 = nI (cP C) ∧ Fr (cCl b) w q.2 ∧ IsX q.2 b (newP C v)) := by
  obtain ⟨a1, a2, a3, a4, a5, a6, a7, a8, a9, a10⟩ := hc.B
  obtain ⟨p1, p2, p3, p4, p5, p6, p7⟩ := hc.P h6
  unfold fX0_addPerson
  simp only [chk_t a1, a2, ob_s, chk_t a5, a6, hx.1.1, chk_t p1, p2, p3, chk_t p4]
  refine Wp_c (X4_start (hc.2.1 _ h6).2 (nI v)) (fun u h1 => ?_)
  obtain ⟨h1, h2, h3⟩ := h1
  have hcv := (h1.cl hc).B.1
  have e4 : wI u b 3 = nI (cP C) := by rw [h1.at (by omega)]; exact hx.1.1
  simp only [chk_t hcv, bnd_e, e4]
  refine Wp_of rfl ⟨rfl, (h1.mono (fun x i q => ⟨by omega, by omega⟩)).sI _ ⟨by omega, by omega⟩, ?_⟩
  refine hx.setP h6 (Or.inr ⟨rfl, rfl⟩) (Nat.lt_succ_self _) (fun a i q1 q2 => ?_) ?_ ?_ (fun h hh => ?_)
  · rw [wI_n q2]
    exact h1.at (by unfold pA at q1; omega)
  · rw [wI_e]
    exact nI_1 _
  · rw [wI_n (by unfold pA; omega)]
    exact h2
  · rw [wI_n (by unfold pA; omega)]
    exact h3 h hh
theorem X8_newOne {w : Wd} {C : Cl} (hc : ShM w) (hx : IsM w C) (h6 : cP C < 6) (v : Nat) : Wp (fX8_newOne 0 (nI v) w) (fun q => q.1 = nI (cP C) ∧ Fr (fun x i => x = 4 ∨ x = 5 ∨ (x = 0 ∧ i = 3)) w q.2 ∧ IsM q.2 (newP C v)) := by
  have a0 := hc.O
  obtain ⟨b1, b2⟩ := inb6 h6
  obtain ⟨e1, e2, e3⟩ := hc.a4
  have hn : wI w 0 3 = nI (cP C) := hx.1.1
  unfold fX8_newOne fX8_newOne_L12
  simp only [chk_t a0, e1, ob_s, chk_t e2, e3, hn, chk_t b1, b2, bnd_e]
  refine it_w1 (fun i u => Fr (fun x i => (x = 4 ∧ i = cP C) ∨ (x = 5 ∧ 12 * cP C ≤ i ∧ i < 12 * cP C + 12)) w u ∧ wI u 4 (cP C) = nI v ∧ ∀ h, h < i → wI u 5 (12 * cP C + h) = nI 0) 12 (by decide) ⟨Fr_sI _ (Or.inl ⟨rfl, rfl⟩), wI_e _ _ _ _, fun h q => absurd q (Nat.not_lt_zero h)⟩ (fun i u hi hv => ?_) (fun u hv => ?_)
  · obtain ⟨hf, hv1, hv2⟩ := hv
    have hs := hf.shm hc
    have a0 := hs.O
    obtain ⟨c1, c2, c3⟩ := hs.a5
    obtain ⟨m1, m2⟩ := inb72 h6 hi
    have hn : wI u 0 3 = nI (cP C) := by rw [hf.at (by omega)]; exact hx.1.1
    unfold fX8_newOne_L12_body
    simp only [leL12 (show i < 2147483648 by omega), if_neg (Nat.not_le.mpr hi), chk_t a0, c1, ob_s, chk_t c2, c3, hn, tw_mul_nI, nI_add, chk_t m1, m2, bnd_e, Wp_l]
    refine ⟨nI_1 i, hf.sI _ (Or.inr ⟨rfl, by omega, by omega⟩), ?_, fun h hh => ?_⟩
    · rw [wI_n (by omega)]; exact hv1
    · by_cases e : h = i
      · subst e
        exact wI_e _ _ _ _
      · rw [wI_n (by omega)]
        exact hv2 h (by omega)
  · obtain ⟨hf, hv1, hv2⟩ := hv
    have hs := hf.shm hc
    have a0 := hs.O
    have hn : wI u 0 3 = nI (cP C) := by rw [hf.at (by omega)]; exact hx.1.1
    unfold fX8_newOne_L12_body
    rw [if_pos (show (12 : Int32) ≤ nI 12 by decide), chk_t a0, bnd_e]
    refine Wp_wr (Wp_of rfl ⟨hn, (hf.mono (fun a i q => by omega)).sI _ (Or.inr (Or.inr ⟨rfl, rfl⟩)), ?_⟩)
    refine hx.setP (Or.inr ⟨rfl, rfl⟩) (fun a i q1 q2 q3 q4 => ?_) ?_ ?_ (fun i hi => ?_)
    · rw [wI_n q4]
      exact hf.at (by omega)
    · rw [wI_e, hn]
      exact nI_1 _
    · rw [wI_n (by omega)]; exact hv1
    · rw [wI_n (by omega)]; exact hv2 i hi
