/-! shapes of parts of a world -/
theorem chk_T {α : Type} {inst : Decidable True} (k : Option α) : @chk α True inst k = k := if_pos trivial
def PeS (w : Wd) (a : Nat) : Prop := a + 1 < wN w ∧ wK w a = 14 ∧ wR w a 0 = some (a + 1) ∧ wK w (a + 1) = 0 ∧ wn w (a + 1) = 12
def GaS (w : Wd) (a : Nat) : Prop := a + 2 < wN w ∧ wK w a = 12 ∧ wR w a 0 = some (a + 1) ∧ wR w a 1 = some (a + 2) ∧ wK w (a + 1) = 0 ∧ wn w (a + 1) = 12 ∧ wK w (a + 2) = 0 ∧ wn w (a + 2) = 12
def SfS (w : Wd) (a : Nat) : Prop := a + 1 < wN w ∧ wK w a = 16 ∧ wR w a 0 = some (a + 1) ∧ wK w (a + 1) = 1 ∧ wn w (a + 1) = 160
def ClS (w : Wd) (b : Nat) : Prop := (b + 3 < wN w ∧ wK w b = 10 ∧ wR w b 0 = some (b + 1) ∧ wR w b 1 = some (b + 2) ∧ wR w b 2 = some (b + 3) ∧ wK w (b + 1) = 3 ∧ wn w (b + 1) = 6 ∧ wK w (b + 2) = 2 ∧ wn w (b + 2) = 8 ∧ wK w (b + 3) = 0 ∧ wn w (b + 3) = 6) ∧
  (∀ p, p < 6 → wR w (b + 1) p = some (b + 4 + 2 * p) ∧ PeS w (b + 4 + 2 * p)) ∧ ∀ g, g < 8 → wR w (b + 2) g = some (b + 16 + 3 * g) ∧ GaS w (b + 16 + 3 * g)
def ShX (w : Wd) : Prop := wN w = 151 ∧ (∀ a, a < 151 → w.2.1 a = hdX a) ∧ ∀ a, a < 151 → ∀ i, i < 12 → (a = 126 → i < 2) → wR w a i = rfX a i
def ShM (w : Wd) : Prop := wN w = 19 ∧ (∀ a, a < 19 → w.2.1 a = hdM a) ∧ ∀ i, i < 27 → wR w 0 i = rfM i
def cb (b : Nat) : Prop := b = 3 ∨ b = 43 ∨ b = 83
theorem ShX.K {w : Wd} (h : ShX w) {a k n : Nat} (ha : a < 151) (he : hdX a = (k, n)) : wK w a = k ∧ wn w a = n := by
  unfold wK wn
  rw [h.2.1 a ha, he]
  exact ⟨rfl, rfl⟩
theorem ShX.R {w : Wd} (h : ShX w) {a i : Nat} {r : Option Nat} (ha : a < 151) (hi : i < 12) (h6 : a = 126 → i < 2) (he : rfX a i = r) : wR w a i = r := by rw [h.2.2 a ha i hi h6, he]
def lGa (a : Nat) : Prop := a + 2 < 151 ∧ a ≠ 126 ∧ hdX a = (12, 0) ∧ hdX (a + 1) = (0, 12) ∧ hdX (a + 2) = (0, 12) ∧ rfX a 0 = some (a + 1) ∧ rfX a 1 = some (a + 2)
def lPe (a : Nat) : Prop := a + 1 < 151 ∧ a ≠ 126 ∧ hdX a = (14, 0) ∧ hdX (a + 1) = (0, 12) ∧ rfX a 0 = some (a + 1)
def lSf (a : Nat) : Prop := a + 1 < 151 ∧ a ≠ 126 ∧ hdX a = (16, 0) ∧ hdX (a + 1) = (1, 160) ∧ rfX a 0 = some (a + 1)
def lGaB (a : Nat) : Bool := decide (a + 2 < 151) && (decide (a ≠ 126) && (decide (hdX a = (12, 0)) && (decide (hdX (a + 1) = (0, 12)) && (decide (hdX (a + 2) = (0, 12)) && (decide (rfX a 0 = some (a + 1)) && decide (rfX a 1 = some (a + 2)))))))
def lPeB (a : Nat) : Bool := decide (a + 1 < 151) && (decide (a ≠ 126) && (decide (hdX a = (14, 0)) && (decide (hdX (a + 1) = (0, 12)) && decide (rfX a 0 = some (a + 1)))))
def lSfB (a : Nat) : Bool := decide (a + 1 < 151) && (decide (a ≠ 126) && (decide (hdX a = (16, 0)) && (decide (hdX (a + 1) = (1, 160)) && decide (rfX a 0 = some (a + 1)))))
theorem lGa_of {a : Nat} (h : lGaB a = true) : lGa a := by
  unfold lGaB at h
  simp only [Bool.and_eq_true, decide_eq_true_eq] at h
  exact h
theorem lPe_of {a : Nat} (h : lPeB a = true) : lPe a := by
  unfold lPeB at h
  simp only [Bool.and_eq_true, decide_eq_true_eq] at h
  exact h
theorem lSf_of {a : Nat} (h : lSfB a = true) : lSf a := by
  unfold lSfB at h
  simp only [Bool.and_eq_true, decide_eq_true_eq] at h
  exact h
theorem lGa_3 : ∀ b, b < 3 → ∀ g, g < 8 → (lGaB (3 + 40 * b + 16 + 3 * g) = true ∧ rfX (3 + 40 * b + 2) g = some (3 + 40 * b + 16 + 3 * g)) := by decide +kernel
theorem lPe_3 : ∀ b, b < 3 → ∀ p, p < 6 → (lPeB (3 + 40 * b + 4 + 2 * p) = true ∧ rfX (3 + 40 * b + 1) p = some (3 + 40 * b + 4 + 2 * p)) := by decide +kernel
theorem lSf_3 : ∀ s, s < 8 → lSfB (135 + 2 * s) = true ∧ rfX 1 s = some (135 + 2 * s) := by decide +kernel
theorem lGa_ok (g : Nat) (hg : g < 8) : (lGa (3 + 16 + 3 * g) ∧ rfX (3 + 2) g = some (3 + 16 + 3 * g)) ∧ (lGa (43 + 16 + 3 * g) ∧ rfX (43 + 2) g = some (43 + 16 + 3 * g)) ∧ (lGa (83 + 16 + 3 * g) ∧ rfX (83 + 2) g = some (83 + 16 + 3 * g)) :=
  ⟨⟨lGa_of (lGa_3 0 (by decide) g hg).1, (lGa_3 0 (by decide) g hg).2⟩, ⟨lGa_of (lGa_3 1 (by decide) g hg).1, (lGa_3 1 (by decide) g hg).2⟩, ⟨lGa_of (lGa_3 2 (by decide) g hg).1, (lGa_3 2 (by decide) g hg).2⟩⟩
theorem lPe_ok (p : Nat) (hp : p < 6) : (lPe (3 + 4 + 2 * p) ∧ rfX (3 + 1) p = some (3 + 4 + 2 * p)) ∧ (lPe (43 + 4 + 2 * p) ∧ rfX (43 + 1) p = some (43 + 4 + 2 * p)) ∧ (lPe (83 + 4 + 2 * p) ∧ rfX (83 + 1) p = some (83 + 4 + 2 * p)) :=
  ⟨⟨lPe_of (lPe_3 0 (by decide) p hp).1, (lPe_3 0 (by decide) p hp).2⟩, ⟨lPe_of (lPe_3 1 (by decide) p hp).1, (lPe_3 1 (by decide) p hp).2⟩, ⟨lPe_of (lPe_3 2 (by decide) p hp).1, (lPe_3 2 (by decide) p hp).2⟩⟩
theorem lSf_ok (s : Nat) (hs : s < 8) : lSf (135 + 2 * s) ∧ rfX 1 s = some (135 + 2 * s) := ⟨lSf_of (lSf_3 s hs).1, (lSf_3 s hs).2⟩
theorem lGa_spare : lGa 123 := lGa_of (by decide +kernel)
theorem ShX.ga {w : Wd} (h : ShX w) {a : Nat} (l : lGa a) : GaS w a := by
  obtain ⟨l1, l2, l3, l4, l5, l6, l7⟩ := l
  exact ⟨by rw [h.1]; exact l1, (h.K (by omega) l3).1, h.R (by omega) (by omega) (fun q => absurd q l2) l6, h.R (by omega) (by omega) (fun q => absurd q l2) l7, (h.K (by omega) l4).1, (h.K (by omega) l4).2, (h.K (by omega) l5).1, (h.K (by omega) l5).2⟩
theorem ShX.pe {w : Wd} (h : ShX w) {a : Nat} (l : lPe a) : PeS w a := by
  obtain ⟨l1, l2, l3, l4, l6⟩ := l
  exact ⟨by rw [h.1]; exact l1, (h.K (by omega) l3).1, h.R (by omega) (by omega) (fun q => absurd q l2) l6, (h.K (by omega) l4).1, (h.K (by omega) l4).2⟩
theorem ShX.sf {w : Wd} (h : ShX w) {s : Nat} (hs : s < 8) : SfS w (135 + 2 * s) ∧ wR w 1 s = some (135 + 2 * s) := by
  obtain ⟨⟨l1, l2, l3, l4, l6⟩, l7⟩ := lSf_ok s hs
  exact ⟨⟨by rw [h.1]; exact l1, (h.K (by omega) l3).1, h.R (by omega) (by omega) (fun q => absurd q l2) l6, (h.K (by omega) l4).1, (h.K (by omega) l4).2⟩, h.R (by omega) (by omega) (fun q => by omega) l7⟩
theorem ShX.spare {w : Wd} (h : ShX w) : GaS w 123 := h.ga lGa_spare
theorem ShX.cl {w : Wd} (h : ShX w) {b : Nat} (hb : cb b) : ClS w b := by
  rcases hb with rfl | rfl | rfl
  · refine ⟨⟨by rw [h.1]; omega, (h.K (n := 0) (by omega) (by decide +kernel)).1, h.R (by omega) (by omega) (fun q => by omega) (by decide +kernel), h.R (by omega) (by omega) (fun q => by omega) (by decide +kernel), h.R (by omega) (by omega) (fun q => by omega) (by decide +kernel), (h.K (n := 6) (by omega) (by decide +kernel)).1, (h.K (k := 3) (by omega) (by decide +kernel)).2, (h.K (n := 8) (by omega) (by decide +kernel)).1, (h.K (k := 2) (by omega) (by decide +kernel)).2, (h.K (n := 6) (by omega) (by decide +kernel)).1, (h.K (k := 0) (by omega) (by decide +kernel)).2⟩, fun p hp => ?_, fun g hg => ?_⟩
    · exact ⟨h.R (by omega) (by omega) (fun q => by omega) (lPe_ok p hp).1.2, h.pe (lPe_ok p hp).1.1⟩
    · exact ⟨h.R (by omega) (by omega) (fun q => by omega) (lGa_ok g hg).1.2, h.ga (lGa_ok g hg).1.1⟩
  · refine ⟨⟨by rw [h.1]; omega, (h.K (n := 0) (by omega) (by decide +kernel)).1, h.R (by omega) (by omega) (fun q => by omega) (by decide +kernel), h.R (by omega) (by omega) (fun q => by omega) (by decide +kernel), h.R (by omega) (by omega) (fun q => by omega) (by decide +kernel), (h.K (n := 6) (by omega) (by decide +kernel)).1, (h.K (k := 3) (by omega) (by decide +kernel)).2, (h.K (n := 8) (by omega) (by decide +kernel)).1, (h.K (k := 2) (by omega) (by decide +kernel)).2, (h.K (n := 6) (by omega) (by decide +kernel)).1, (h.K (k := 0) (by omega) (by decide +kernel)).2⟩, fun p hp => ?_, fun g hg => ?_⟩
    · exact ⟨h.R (by omega) (by omega) (fun q => by omega) (lPe_ok p hp).2.1.2, h.pe (lPe_ok p hp).2.1.1⟩
    · exact ⟨h.R (by omega) (by omega) (fun q => by omega) (lGa_ok g hg).2.1.2, h.ga (lGa_ok g hg).2.1.1⟩
  · refine ⟨⟨by rw [h.1]; omega, (h.K (n := 0) (by omega) (by decide +kernel)).1, h.R (by omega) (by omega) (fun q => by omega) (by decide +kernel), h.R (by omega) (by omega) (fun q => by omega) (by decide +kernel), h.R (by omega) (by omega) (fun q => by omega) (by decide +kernel), (h.K (n := 6) (by omega) (by decide +kernel)).1, (h.K (k := 3) (by omega) (by decide +kernel)).2, (h.K (n := 8) (by omega) (by decide +kernel)).1, (h.K (k := 2) (by omega) (by decide +kernel)).2, (h.K (n := 6) (by omega) (by decide +kernel)).1, (h.K (k := 0) (by omega) (by decide +kernel)).2⟩, fun p hp => ?_, fun g hg => ?_⟩
    · exact ⟨h.R (by omega) (by omega) (fun q => by omega) (lPe_ok p hp).2.2.2, h.pe (lPe_ok p hp).2.2.1⟩
    · exact ⟨h.R (by omega) (by omega) (fun q => by omega) (lGa_ok g hg).2.2.2, h.ga (lGa_ok g hg).2.2.1⟩
/-! counting -/
def cntN (f : Nat → Bool) : Nat → Nat
  | 0 => 0
  | n + 1 => cntN f n + (if f n then 1 else 0)
theorem cntN_s (f : Nat → Bool) (n : Nat) : cntN f (n + 1) = cntN f n + (if f n then 1 else 0) := rfl
theorem cntN_le (f : Nat → Bool) : ∀ n, cntN f n ≤ n
  | 0 => Nat.le_refl 0
  | n + 1 => by
    have := cntN_le f n
    unfold cntN
    split <;> omega
theorem X2_countHabits {w : Wd} {a : Nat} (h : GaS w a) : fX2_countHabits a w = some (nI (cntN (fun i => decide (¬ wI w (a + 1) i = 0)) 12), w) := by
  obtain ⟨h1, h2, h3, h4, h5, h6, h7, h8⟩ := h
  unfold fX2_countHabits fX2_countHabits_L4
  refine it_for (fun i => (nI (cntN (fun i => decide (¬ wI w (a + 1) i = 0)) i), nI i, w)) 12 (by decide) (fun i hi => ?_) ?_
  · have e12 : ¬ (12 : Int32) ≤ nI i := nI_ge (b := 12) hi (by decide)
    have eo : isO w a 2 := ⟨by omega, h2⟩
    have ea : isA w (a + 1) 0 := ⟨by omega, h5⟩
    have ei : inb (nI i) 12 := inb_nI hi (by decide)
    unfold fX2_countHabits_L4_body
    simp only [if_neg e12, chk_t eo, h3, ob_s, chk_t ea, h6, chk_t ei, nI_clamp (show i < 2 ^ 31 by omega), fX2_countHabits_b22, nI_1]
    by_cases hz : wI w (a + 1) i = 0
    · rw [if_pos hz, cntN_s, if_neg (by simp [hz])]
      rfl
    · rw [if_neg hz, cntN_s, if_pos (by simp [hz])]
  · rfl
