/-! washing -/
def fdT (k : Nat) : Nat := [3, 1, 5, 1, 0, 2, 9].getD k 0
def wsH (k : Nat) (hb fm : Nat → Nat) (n h : Nat) : Nat := if h < n ∧ fm h ≤ fdT k then 0 else hb h
def wsF (k : Nat) (fm : Nat → Nat) (n h : Nat) : Nat := if h < n then fm h - fdT k else fm h
theorem wsH_0 (k : Nat) (hb fm : Nat → Nat) : wsH k hb fm 0 = hb := funext fun h => if_neg (fun q => absurd q.1 (Nat.not_lt_zero h))
theorem wsF_0 (k : Nat) (fm : Nat → Nat) : wsF k fm 0 = fm := funext fun h => if_neg (Nat.not_lt_zero h)
theorem wsF_i (k : Nat) (fm : Nat → Nat) (i : Nat) : wsF k fm i i = fm i := if_neg (Nat.lt_irrefl i)
theorem wsH_i (k : Nat) (hb fm : Nat → Nat) (i : Nat) : wsH k hb fm i i = hb i := if_neg (fun q => Nat.lt_irrefl i q.1)
theorem wsF_s (k : Nat) (fm : Nat → Nat) (n : Nat) : wsF k fm (n + 1) = upN (wsF k fm n) n (fm n - fdT k) := by
  funext h
  unfold wsF upN
  by_cases e : h = n
  · subst e
    rw [if_pos (Nat.lt_succ_self h), if_pos rfl]
  · rw [if_neg e]
    dsimp only
    by_cases q : h < n
    · rw [if_pos q, if_pos (by omega)]
    · rw [if_neg q, if_neg (by omega)]
theorem wsH_s1 (k : Nat) (hb fm : Nat → Nat) {n : Nat} (hq : fm n ≤ fdT k) : wsH k hb fm (n + 1) = upN (wsH k hb fm n) n 0 := by
  funext h
  unfold wsH upN
  by_cases e : h = n
  · subst e
    rw [if_pos ⟨Nat.lt_succ_self h, hq⟩, if_pos rfl]
  · rw [if_neg e]
    dsimp only
    by_cases q : h < n ∧ fm h ≤ fdT k
    · rw [if_pos q, if_pos ⟨by omega, q.2⟩]
    · rw [if_neg q, if_neg (fun r => q ⟨by omega, r.2⟩)]
theorem wsH_s0 (k : Nat) (hb fm : Nat → Nat) {n : Nat} (hq : ¬ fm n ≤ fdT k) : wsH k hb fm (n + 1) = wsH k hb fm n := by
  funext h
  unfold wsH
  by_cases e : h = n
  · subst e
    rw [if_neg (fun q => hq q.2), if_neg (fun q => hq q.2)]
  · by_cases q : h < n ∧ fm h ≤ fdT k
    · rw [if_pos q, if_pos ⟨by omega, q.2⟩]
    · rw [if_neg q, if_neg (fun r => q ⟨by omega, r.2⟩)]
theorem saV2 : ∀ k, k < 7 → inb (nI k) (saV 2).length ∧ (saV 2).getD (nI k).toNatClampNeg 0 = nI (fdT k) := by decide +kernel
theorem fdT_le : ∀ k, k < 7 → fdT k ≤ 9 := by decide
theorem sub_le9 : ∀ a, a < 10 → ∀ b, b < 10 → (nI a - nI b ≤ 0 ↔ a ≤ b) := by decide +kernel
theorem IsG_f {w : Wd} {a k A W h : Nat} {hb fm : Nat → Nat} (hG : IsG w a k A W hb fm) (y : Nat) : IsG (sI w (a + 2) h (nI y)) a k A W hb (upN fm h y) := by
  obtain ⟨⟨h1, h2, h3⟩, h4⟩ := hG
  refine ⟨⟨?_, ?_, ?_⟩, fun i hi => ⟨?_, ?_⟩⟩
  · rw [wI_n (by omega)]; exact h1
  · rw [wI_n (by omega)]; exact h2
  · rw [wI_n (by omega)]; exact h3
  · rw [wI_n (by omega)]; exact (h4 i hi).1
  · by_cases e : i = h
    · subst e
      rw [wI_e, upN_e]
    · rw [wI_n (by omega), upN_n _ _ e]; exact (h4 i hi).2
theorem IsG_h {w : Wd} {a k A W h : Nat} {hb fm : Nat → Nat} (hG : IsG w a k A W hb fm) (x : Nat) : IsG (sI w (a + 1) h (nI x)) a k A W (upN hb h x) fm := by
  obtain ⟨⟨h1, h2, h3⟩, h4⟩ := hG
  refine ⟨⟨?_, ?_, ?_⟩, fun i hi => ⟨?_, ?_⟩⟩
  · rw [wI_n (by omega)]; exact h1
  · rw [wI_n (by omega)]; exact h2
  · rw [wI_n (by omega)]; exact h3
  · by_cases e : i = h
    · subst e
      rw [wI_e, upN_e]
    · rw [wI_n (by omega), upN_n _ _ e]; exact (h4 i hi).1
  · rw [wI_n (by omega)]; exact (h4 i hi).2
theorem X2_launder {w : Wd} {a k A W : Nat} {hb fm : Nat → Nat} (hg : GaS w a) (hG : IsG w a k A W hb fm) (h7 : k < 7) (hl : ∀ h, h < 12 → fm h ≤ 9) :
    Wp (fX2_launder a w) (fun w' => Fr (fun x _ => x = a + 1 ∨ x = a + 2) w w' ∧ IsG w' a k A W (wsH k hb fm 12) (wsF k fm 12)) := by
  unfold fX2_launder fX2_launder_L2
  have hk9 := fdT_le k h7
  obtain ⟨s1, s2⟩ := saV2 k h7
  refine it_w1 (fun i v => Fr (fun x _ => x = a + 1 ∨ x = a + 2) w v ∧ IsG v a k A W (wsH k hb fm i) (wsF k fm i)) 12 (by decide) ⟨Fr.refl w, by rw [wsH_0, wsF_0]; exact hG⟩ (fun i v hi hv => ?_) (fun v hv => ?_)
  · obtain ⟨hf, hv⟩ := hv
    have hgv := hf.ga hg
    obtain ⟨g1, g2, g3, g4, g5, g6, g7, g8⟩ := hgv
    obtain ⟨n1, n2⟩ := inb12 hi
    have o : isO v a 2 := ⟨by omega, g2⟩
    have i2 : isA v (a + 2) 0 := ⟨g1, g7⟩
    have ef := (hv.2 i hi).2
    rw [wsF_i] at ef
    have hs : (nI (fm i) - nI (fdT k) ≤ 0) = (fm i ≤ fdT k) := propext (sub_le9 _ (by have := hl i hi; omega) _ (by omega))
    unfold fX2_launder_L2_body
    simp only [leL12 (show i < 2147483648 by omega), if_neg (Nat.not_le.mpr hi), chk_t o, g4, ob_s, chk_t i2, g8, chk_t n1, n2, hv.1.1, chk_t s1, s2, ef, bnd_e, hs]
    by_cases q : fm i ≤ fdT k
    · simp only [if_pos q, X2_accustom (hf.ga hg) hi, ob_s, fX2_launder_b45, Wp_l]
      refine ⟨nI_1 i, (hf.sI _ (Or.inl rfl)).sI _ (Or.inr rfl), ?_⟩
      rw [wsH_s1 k hb fm q, wsF_s, show fm i - fdT k = 0 by omega]
      exact IsG_f (IsG_h hv 0) 0
    · simp only [if_neg q, fX2_launder_b45, Wp_l, nI_sub_le (show fdT k ≤ fm i by omega)]
      refine ⟨nI_1 i, hf.sI _ (Or.inr rfl), ?_⟩
      rw [wsH_s0 k hb fm q, wsF_s]
      exact IsG_f hv _
  · unfold fX2_launder_L2_body
    rw [if_pos (show (12 : Int32) ≤ nI 12 by decide)]
    exact Wp_wr (Wp_of rfl hv)
theorem CG_ws {P k A W : Nat} {hb fm : Nat → Nat} (h : CG P k A W hb fm) : CG P k A W (wsH k hb fm 12) (wsF k fm 12) := by
  refine ⟨h.1, fun i hi => ?_⟩
  obtain ⟨h1, h2, h3⟩ := h.2 i hi
  unfold wsH wsF
  rw [if_pos hi]
  by_cases q : fm i ≤ fdT k
  · rw [if_pos ⟨hi, q⟩]
    omega
  · rw [if_neg (fun r => q r.2)]
    omega
def wsC (C : Cl) (g : Nat) : Cl := setG C (cG C) g (cKd C g) (cAa C g) (cWr C g) (wsH (cKd C g) (cHb C g) (cFm C g) 12) (wsF (cKd C g) (cFm C g) 12)
theorem CI_wsC {C : Cl} (hI : CI C) {g : Nat} (hg : g < cG C) : CI (wsC C g) := hI.setG hI.1.2 (Or.inl rfl) (CG_ws (hI.g hg))
theorem X0_launder {w : Wd} {b : Nat} {C : Cl} (hc : ClS w b) (hx : IsX w b C) (hI : CI C) {g : Nat} (hg : g < cG C) : Wp (fX2_launder (gA b g) w) (fun w' => Fr (fun x _ => x = gA b g + 1 ∨ x = gA b g + 2) w w' ∧ IsX w' b (wsC C g)) := by
  have hC := hI.g hg
  have h8 : cG C ≤ 8 := hI.1.2
  refine Wp_m (X2_launder (hc.2.2 g (by omega)).2 (hx.g hg) (by have := hC.1.1; omega) (fun h hh => (hC.2 h hh).2.1)) (fun w' h => ⟨h.1, ?_⟩)
  refine hx.setG hI h8 (Or.inl rfl) hg (fun a i q1 q2 => h.1.at (by omega)) ?_ h.2
  rw [h.1.at (by unfold gA; omega)]
  exact hx.1.2.1
/-! in the model -/
theorem IsH_f {w : Wd} {g k A W h : Nat} {hb fm : Nat → Nat} (hG : IsH w g k A W hb fm) (hh : h < 12) (y : Nat) : IsH (sI w 10 (12 * g + h) (nI y)) g k A W hb (upN fm h y) := by
  obtain ⟨⟨h1, h2, h3⟩, h4⟩ := hG
  refine ⟨⟨?_, ?_, ?_⟩, fun i hi => ⟨?_, ?_⟩⟩
  · rw [wI_n (by omega)]; exact h1
  · rw [wI_n (by omega)]; exact h2
  · rw [wI_n (by omega)]; exact h3
  · rw [wI_n (by omega)]; exact (h4 i hi).1
  · by_cases e : i = h
    · subst e
      rw [wI_e, upN_e]
    · rw [wI_n (by omega), upN_n _ _ e]; exact (h4 i hi).2
theorem IsH_h {w : Wd} {g k A W h : Nat} {hb fm : Nat → Nat} (hG : IsH w g k A W hb fm) (hh : h < 12) (x : Nat) : IsH (sI w 9 (12 * g + h) (nI x)) g k A W (upN hb h x) fm := by
  obtain ⟨⟨h1, h2, h3⟩, h4⟩ := hG
  refine ⟨⟨?_, ?_, ?_⟩, fun i hi => ⟨?_, ?_⟩⟩
  · rw [wI_n (by omega)]; exact h1
  · rw [wI_n (by omega)]; exact h2
  · rw [wI_n (by omega)]; exact h3
  · by_cases e : i = h
    · subst e
      rw [wI_e, upN_e]
    · rw [wI_n (by omega), upN_n _ _ e]; exact (h4 i hi).1
  · rw [wI_n (by omega)]; exact (h4 i hi).2
theorem X8_washedBy (w : Wd) : ∀ k, k < 7 → fX8_washedBy (nI k) w = some (nI (fdT k), w)
  | 0, _ => rfl
  | 1, _ => rfl
  | 2, _ => rfl
  | 3, _ => rfl
  | 4, _ => rfl
  | 5, _ => rfl
  | 6, _ => rfl
  | k + 7, h => absurd h (by omega)
theorem sub_gt9 {a b : Nat} (ha : a < 10) (hb : b < 10) : (0 < nI a - nI b) = ¬ (a ≤ b) := propext ((sub_pos9 a ha b hb).trans Nat.not_le.symm)
theorem X8_washesG {w : Wd} (hc : ShM w) {g k A W : Nat} {hb fm : Nat → Nat} (hg : g < 8) (hG : IsH w g k A W hb fm) (h7 : k < 7) (hl : ∀ h, h < 12 → fm h ≤ 9) :
    Wp (fX8_washes 0 (nI g) w) (fun w' => Fr (fun x i => (x = 9 ∨ x = 10) ∧ 12 * g ≤ i ∧ i < 12 * g + 12) w w' ∧ IsH w' g k A W (wsH k hb fm 12) (wsF k fm 12)) := by
  unfold fX8_washes fX8_washes_L2
  have hk9 := fdT_le k h7
  refine it_w1 (fun i v => Fr (fun x i => (x = 9 ∨ x = 10) ∧ 12 * g ≤ i ∧ i < 12 * g + 12) w v ∧ IsH v g k A W (wsH k hb fm i) (wsF k fm i)) 12 (by decide) ⟨Fr.refl w, by rw [wsH_0, wsF_0]; exact hG⟩ (fun i v hi hv => ?_) (fun v hv => ?_)
  · obtain ⟨hf, hv⟩ := hv
    have hs := hf.shm hc
    have a0 := hs.O
    obtain ⟨d1, d2, d3⟩ := hs.a10
    obtain ⟨e1, e2, e3⟩ := hs.a6
    obtain ⟨m1, m2⟩ := inb96 hg hi
    obtain ⟨b1, b2⟩ := inb8 hg
    have ef := (hv.2 i hi).2
    rw [wsF_i] at ef
    have hq := sub_gt9 (show fm i < 10 by have := hl i hi; omega) (show fdT k < 10 by omega)
    unfold fX8_washes_L2_body
    simp only [leL12 (show i < 2147483648 by omega), if_neg (Nat.not_le.mpr hi), chk_t a0, d1, ob_s, chk_t d2, d3, tw_mul_nI, nI_add, chk_t m1, m2, e1, chk_t e2, e3, chk_t b1, b2, hv.1.1, X8_washedBy v k h7, ef, bnd_e, hq]
    by_cases q : fm i ≤ fdT k
    · simp only [if_neg (not_not_intro q), X8_becomes hs hg hi, ob_s, fX8_washes_b57, Wp_l]
      refine ⟨nI_1 i, (hf.sI _ ⟨Or.inl rfl, by omega, by omega⟩).sI _ ⟨Or.inr rfl, by omega, by omega⟩, ?_⟩
      rw [wsH_s1 k hb fm q, wsF_s, show fm i - fdT k = 0 by omega]
      exact IsH_f (IsH_h hv hi 0) hi 0
    · simp only [if_pos q, fX8_washes_b57, Wp_l, nI_sub_le (show fdT k ≤ fm i by omega)]
      refine ⟨nI_1 i, hf.sI _ ⟨Or.inr rfl, by omega, by omega⟩, ?_⟩
      rw [wsH_s0 k hb fm q, wsF_s]
      exact IsH_f hv hi _
  · unfold fX8_washes_L2_body
    rw [if_pos (show (12 : Int32) ≤ nI 12 by decide)]
    exact Wp_wr (Wp_of rfl hv)
def cM9 (x _ : Nat) : Prop := x = 9 ∨ x = 10
theorem X8_washes {w : Wd} {C : Cl} (hc : ShM w) (hx : IsM w C) (hI : CI C) {g : Nat} (hg : g < cG C) : Wp (fX8_washes 0 (nI g) w) (fun w' => Fr cM9 w w' ∧ IsM w' (wsC C g)) := by
  have hC := hI.g hg
  have h8 : cG C ≤ 8 := hI.1.2
  refine Wp_m (X8_washesG hc (show g < 8 by omega) (hx.g hg) (by have := hC.1.1; omega) (fun h hh => (hC.2 h hh).2.1)) (fun w' h => ⟨h.1.mono (fun a i q => q.1), ?_⟩)
  refine hx.setG (Or.inl rfl) (fun a i q1 q2 q3 => h.1.at (fun r => q2 (Or.inr r))) ?_ h.2
  rw [h.1.at (by omega)]
  exact hx.1.2.1
