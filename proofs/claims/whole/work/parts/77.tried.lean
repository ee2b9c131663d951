/-! who is worn; kinds; washing tried -/
theorem bc_or : ∀ g, g < 8 → ∀ m, m < 2 ^ g → bcI (nI (m ||| 2 ^ g)) = bcI (nI m) + 1 := by decide +kernel
theorem bc_0 : bcI (nI 0) = nI 0 := by decide +kernel
theorem bc_bN (f : Nat → Bool) : ∀ n, n ≤ 8 → bcI (nI (bN f n)) = nI (cntN f n)
  | 0, _ => bc_0
  | n + 1, h => by
    have ih := bc_bN f n (by omega)
    rw [bN_s, cntN_s]
    cases e : f n with
    | true =>
      rw [if_pos rfl, if_pos rfl, bc_or n (by omega) _ (bN_lt f n), ih]
      exact nI_1 _
    | false => rw [if_neg Bool.false_ne_true, if_neg Bool.false_ne_true, ih, Nat.add_zero]
theorem cntN_not (f : Nat → Bool) : ∀ n, cntN f n + cntN (fun i => !f i) n = n
  | 0 => rfl
  | n + 1 => by
    have ih := cntN_not f n
    rw [cntN_s, cntN_s]
    cases f n <;> simp <;> omega
def cwN (C : Cl) : Nat := cntN (fun g => decide (cWr C g ≠ 0)) (cG C)
theorem X0_countWorn {w : Wd} {b : Nat} {C : Cl} (hc : ClS w b) (hx : IsX w b C) (hI : CI C) : fX0_countWorn b w = some (nI (cwN C), w) := by
  obtain ⟨a1, -⟩ := hc.B
  have h := X0_wornBy hc hx hI (k := 0) (by decide)
  rw [wv_0] at h
  unfold fX0_countWorn
  simp only [chk_t a1, h, ob_s, J6_bc, bc_bN _ _ hI.1.2, hx.1.2.1]
  have e := cntN_not (fun g => decide (cWr C g = 0)) (cG C)
  have e2 : cwN C = cntN (fun g => !decide (cWr C g = 0)) (cG C) := by
    unfold cwN
    exact cntN_congr _ (fun g _ => by simp)
  rw [pk_sub (by omega), e2]
  congr 3
  omega
theorem X8_statusL {w : Wd} {C : Cl} (hc : ShM w) (hx : IsM w C) (hI : CI C) : fX8_status_L61 0 (0, 0, w) = some (nI (cwN C), w) := by
  have a0 := hc.O
  have hG : cG C ≤ 8 := hI.1.2
  have hP : cP C ≤ 6 := hI.1.1
  obtain ⟨g1, g2, g3⟩ := hc.a8
  unfold fX8_status_L61
  refine it_for (fun i => (nI (cntN (fun g => decide (cWr C g ≠ 0)) i), nI i, w)) (cG C) (by omega) (fun i hi => ?_) ?_
  · obtain ⟨b1, b2⟩ := inb8 (show i < 8 by omega)
    have hw := (hI.2.2 i hi).1.2.2
    unfold fX8_status_L61_body
    simp only [chk_t a0, hx.1.2.1, nI_le_iff (show cG C < 2147483648 by omega) (show i < 2147483648 by omega), if_neg (Nat.not_le.mpr hi), g1, ob_s, chk_t g2, g3, chk_t b1, b2, (hx.2.2 i hi).1.2.2, wv_m1 (show cWr C i < 2147483648 by omega), fX8_status_b82, nI_1]
    by_cases e : cWr C i = 0
    · rw [if_pos e, cntN_s, if_neg (by simp [e])]
      rfl
    · rw [if_neg e, cntN_s, if_pos (by simp [e])]
  · unfold fX8_status_L61_body
    simp only [chk_t a0, hx.1.2.1, Int32.le_refl, if_true]
    rfl
def abT (k : Nat) : Nat := [0, 0, 0, 1, 0, 2, 4].getD k 0
/-- whether a kind is one, or under it -/
def unT (k j : Nat) : Bool := k == j || abT k == j || j == 0
theorem X2_isAL (w : Wd) : ∀ k j, k < 7 → j < 7 → fX2_isA_L7 (nI j) (nI k, 0, w) = some (if unT k j then 1 else 0, w)
  | 0, 0, _, _ => rfl
  | 0, 1, _, _ => rfl
  | 0, 2, _, _ => rfl
  | 0, 3, _, _ => rfl
  | 0, 4, _, _ => rfl
  | 0, 5, _, _ => rfl
  | 0, 6, _, _ => rfl
  | 1, 0, _, _ => rfl
  | 1, 1, _, _ => rfl
  | 1, 2, _, _ => rfl
  | 1, 3, _, _ => rfl
  | 1, 4, _, _ => rfl
  | 1, 5, _, _ => rfl
  | 1, 6, _, _ => rfl
  | 2, 0, _, _ => rfl
  | 2, 1, _, _ => rfl
  | 2, 2, _, _ => rfl
  | 2, 3, _, _ => rfl
  | 2, 4, _, _ => rfl
  | 2, 5, _, _ => rfl
  | 2, 6, _, _ => rfl
  | 3, 0, _, _ => rfl
  | 3, 1, _, _ => rfl
  | 3, 2, _, _ => rfl
  | 3, 3, _, _ => rfl
  | 3, 4, _, _ => rfl
  | 3, 5, _, _ => rfl
  | 3, 6, _, _ => rfl
  | 4, 0, _, _ => rfl
  | 4, 1, _, _ => rfl
  | 4, 2, _, _ => rfl
  | 4, 3, _, _ => rfl
  | 4, 4, _, _ => rfl
  | 4, 5, _, _ => rfl
  | 4, 6, _, _ => rfl
  | 5, 0, _, _ => rfl
  | 5, 1, _, _ => rfl
  | 5, 2, _, _ => rfl
  | 5, 3, _, _ => rfl
  | 5, 4, _, _ => rfl
  | 5, 5, _, _ => rfl
  | 5, 6, _, _ => rfl
  | 6, 0, _, _ => rfl
  | 6, 1, _, _ => rfl
  | 6, 2, _, _ => rfl
  | 6, 3, _, _ => rfl
  | 6, 4, _, _ => rfl
  | 6, 5, _, _ => rfl
  | 6, 6, _, _ => rfl
  | k + 7, _, h, _ => absurd h (by omega)
  | _, j + 7, _, h => absurd h (by omega)
theorem X8_isUnder (w : Wd) : ∀ k j, k < 7 → j < 7 → fX8_isUnder (nI k) (nI j) w = some (if unT k j then 1 else 0, w)
  | 0, 0, _, _ => rfl
  | 0, 1, _, _ => rfl
  | 0, 2, _, _ => rfl
  | 0, 3, _, _ => rfl
  | 0, 4, _, _ => rfl
  | 0, 5, _, _ => rfl
  | 0, 6, _, _ => rfl
  | 1, 0, _, _ => rfl
  | 1, 1, _, _ => rfl
  | 1, 2, _, _ => rfl
  | 1, 3, _, _ => rfl
  | 1, 4, _, _ => rfl
  | 1, 5, _, _ => rfl
  | 1, 6, _, _ => rfl
  | 2, 0, _, _ => rfl
  | 2, 1, _, _ => rfl
  | 2, 2, _, _ => rfl
  | 2, 3, _, _ => rfl
  | 2, 4, _, _ => rfl
  | 2, 5, _, _ => rfl
  | 2, 6, _, _ => rfl
  | 3, 0, _, _ => rfl
  | 3, 1, _, _ => rfl
  | 3, 2, _, _ => rfl
  | 3, 3, _, _ => rfl
  | 3, 4, _, _ => rfl
  | 3, 5, _, _ => rfl
  | 3, 6, _, _ => rfl
  | 4, 0, _, _ => rfl
  | 4, 1, _, _ => rfl
  | 4, 2, _, _ => rfl
  | 4, 3, _, _ => rfl
  | 4, 4, _, _ => rfl
  | 4, 5, _, _ => rfl
  | 4, 6, _, _ => rfl
  | 5, 0, _, _ => rfl
  | 5, 1, _, _ => rfl
  | 5, 2, _, _ => rfl
  | 5, 3, _, _ => rfl
  | 5, 4, _, _ => rfl
  | 5, 5, _, _ => rfl
  | 5, 6, _, _ => rfl
  | 6, 0, _, _ => rfl
  | 6, 1, _, _ => rfl
  | 6, 2, _, _ => rfl
  | 6, 3, _, _ => rfl
  | 6, 4, _, _ => rfl
  | 6, 5, _, _ => rfl
  | 6, 6, _, _ => rfl
  | k + 7, _, h, _ => absurd h (by omega)
  | _, j + 7, _, h => absurd h (by omega)
theorem X2_isA {w : Wd} {a k j : Nat} (ho : isO w a 2) (hk : wI w a 2 = nI k) (h7 : k < 7) (hj : j < 7) : fX2_isA a (nI j) w = some (if unT k j then 1 else 0, w) := by
  unfold fX2_isA
  rw [chk_t ho, bnd_e, hk, X2_isAL w k j h7 hj]
theorem X8_saysL {w : Wd} {C : Cl} (hc : ShM w) (hx : IsM w C) (hI : CI C) {g : Nat} (hg : g < cG C) : fX8_says_L145 0 (nI g) (0, 0, w) = some (nI (hrS C g), w) := by
  have a0 := hc.O
  unfold fX8_says_L145
  refine it_for (fun i => (nI (cntN (fun h => goS C g h) i), nI i, w)) 12 (by decide) (fun i hi => ?_) ?_
  · unfold fX8_says_L145_body
    simp only [leL12 (show i < 2147483648 by omega), if_neg (Nat.not_le.mpr hi), chk_t a0, X8_couldGo hc hx hI hg hi, ob_s, fX8_says_b165, nI_1]
    cases e : goS C g i with
    | true => rw [if_neg (by decide), cntN_s, e, if_pos rfl]
    | false =>
      rw [if_pos (by decide), cntN_s, e, if_neg (by decide)]
      rfl
  · rfl
/-- washes till a habit is gone (10: never) -/
def waS (k fm : Nat) : Nat := fI (fun n => decide (fm ≤ n * fdT k)) 10
def waR (k fm : Nat) : Int32 := if waS k fm < 10 then nI (waS k fm) else -1
theorem GaS.sp {w : Wd} (hs : ShX w) : GaS w 123 ∧ wR w 0 5 = some 123 := ⟨hs.spare, hs.R (by decide) (by decide) (fun q => by omega) (by decide +kernel)⟩
/-- the spare garment behind n washes -/
def WsI (v : Wd) (k A W : Nat) (hb fm : Nat → Nat) (n : Nat) : Prop := ∃ hb' fm', IsG v 123 k A W hb' fm' ∧ ∀ h, h < 12 → fm' h = fm h - n * fdT k ∧ (hb' h = 0 ↔ fm' h = 0) ∧ hb' h ≤ 9
theorem WsI_0 {v : Wd} {P k A W : Nat} {hb fm : Nat → Nat} (hG : IsG v 123 k A W hb fm) (hC : CG P k A W hb fm) : WsI v k A W hb fm 0 := by
  refine ⟨hb, fm, hG, fun h hh => ?_⟩
  obtain ⟨h1, h2, h3⟩ := hC.2 h hh
  rw [Nat.zero_mul]
  exact ⟨rfl, h3, h1⟩
theorem WsI_s {v : Wd} {P k A W : Nat} {hb fm : Nat → Nat} {n : Nat} (hs : ShX v) (hC : CG P k A W hb fm) (hw : WsI v k A W hb fm n) : Wp (fX2_launder 123 v) (fun u => Fr (cG3 123) v u ∧ WsI u k A W hb fm (n + 1)) := by
  obtain ⟨hb', fm', hG, hl⟩ := hw
  refine Wp_m (X2_launder hs.spare hG (by have := hC.1.1; omega) (fun h hh => by have := (hl h hh).1; have := (hC.2 h hh).2.1; omega)) (fun u hu => ⟨hu.1.mono (fun a i q => ⟨by omega, by omega⟩), _, _, hu.2, fun h hh => ?_⟩)
  obtain ⟨h1, h2, h3⟩ := hl h hh
  unfold wsF wsH
  rw [if_pos hh, h1, Nat.succ_mul]
  refine ⟨by omega, ?_, ?_⟩
  · by_cases q : h < 12 ∧ fm h - n * fdT k ≤ fdT k
    · rw [if_pos q]; omega
    · rw [if_neg q]
      rw [h1] at h2
      omega
  · by_cases q : h < 12 ∧ fm h - n * fdT k ≤ fdT k
    · rw [if_pos q]; omega
    · rw [if_neg q]; exact h3
theorem X7_washedL {w : Wd} {P k A W : Nat} {hb fm : Nat → Nat} (hs : ShX w) (hG : IsG w 123 k A W hb fm) (hC : CG P k A W hb fm) {h : Nat} (hh : h < 12) : Wp (fX7_washed_L49 0 (nI h) (0, w)) (fun q => q.1 = waR k (fm h) ∧ Fr (cG3 123) w q.2) := by
  unfold fX7_washed_L49
  refine it_w1 (fun i v => Fr (cG3 123) w v ∧ WsI v k A W hb fm i ∧ ∀ j, j < i → ¬ fm h ≤ j * fdT k) 10 (by decide) ⟨Fr.refl w, WsI_0 hG hC, fun j q => absurd q (Nat.not_lt_zero j)⟩ (fun i v hi hv => ?_) (fun v hv => ?_)
  · obtain ⟨hf, hw, hq⟩ := hv
    have hsv := hf.shx hs
    obtain ⟨t1, -⟩ := hsv.T
    obtain ⟨g0, gr⟩ := GaS.sp hsv
    obtain ⟨g1, g2, g3, g4, g5, g6, g7, g8⟩ := id g0
    obtain ⟨n1, n2⟩ := inb12 hh
    have hws := WsI_s hsv hC hw
    obtain ⟨hb', fm', hG', hl⟩ := hw
    obtain ⟨l1, l2, l3⟩ := hl h hh
    unfold fX7_washed_L49_body
    simp only [ltL9 (show i < 2147483648 by omega), if_neg (show ¬ 9 < i by omega), chk_t t1, gr, ob_s, chk_t (show isO v 123 2 from ⟨by omega, g2⟩), g3, chk_t (show isA v (123 + 1) 0 from ⟨by omega, g5⟩), g6, chk_t n1, n2, (hG'.2 h hh).1, eqL0 (show hb' h < 2147483648 by omega)]
    by_cases e : fm h ≤ i * fdT k
    · rw [if_pos (by omega)]
      refine Wp_wr (Wp_of rfl ⟨?_, hf⟩)
      have : waS k (fm h) = i := fI_eq hi (fun j hj => decide_eq_false (hq j hj)) (decide_eq_true e)
      unfold waR
      rw [this, if_pos hi]
    · rw [if_neg (by omega)]
      refine Wp_c hws (fun u hu => ?_)
      rw [Wp_l]
      refine ⟨nI_1 i, hf.trans hu.1, hu.2, fun j hj => ?_⟩
      by_cases r : j = i
      · rw [r]; exact e
      · exact hq j (by omega)
  · obtain ⟨hf, hw, hq⟩ := hv
    unfold fX7_washed_L49_body
    rw [if_pos (show (9 : Int32) < nI 10 by decide)]
    refine Wp_wr (Wp_of rfl ⟨?_, hf⟩)
    have : waS k (fm h) = 10 := fI_all (fun j hj => decide_eq_false (hq j hj))
    unfold waR
    rw [this, if_neg (by decide)]
theorem X8_washedL {w : Wd} (hc : ShM w) {g k fm : Nat} (hg : g < 8) (hk : wI w 6 g = nI k) (h7 : k < 7) (h9 : fm ≤ 9) : Wp (fX8_washed_L43 0 (nI g) (nI fm, 0, w)) (fun q => q.1 = waR k fm ∧ q.2 = w) := by
  have a0 := hc.O
  obtain ⟨e1, e2, e3⟩ := hc.a6
  obtain ⟨b1, b2⟩ := inb8 hg
  have hfd := fdT_le k h7
  unfold fX8_washed_L43
  refine it_w2 (fun i x v => v = w ∧ (∃ a b, a < 10 ∧ b < 10 ∧ x = nI a - nI b ∧ (a ≤ b ↔ fm ≤ i * fdT k) ∧ (¬ a ≤ b → a - b = fm - i * fdT k)) ∧ ∀ j, j < i → ¬ fm ≤ j * fdT k) 10 (by decide) ⟨rfl, ⟨fm, 0, by omega, by decide, (Int32.sub_zero _).symm, by omega, by omega⟩, fun j q => absurd q (Nat.not_lt_zero j)⟩ (fun i x v hi hv => ?_) (fun x v hv => ?_)
  · obtain ⟨rfl, ⟨a, b, ha, hb, rfl, h1, h2⟩, hq⟩ := hv
    unfold fX8_washed_L43_body
    simp only [leL10 (show i < 2147483648 by omega), if_neg (Nat.not_le.mpr hi), sub_gt9 ha hb, chk_t a0, e1, ob_s, chk_t e2, e3, chk_t b1, b2, hk, X8_washedBy v k h7, bnd_e]
    by_cases e : a ≤ b
    · rw [if_neg (not_not_intro e)]
      refine Wp_wr (Wp_of rfl ⟨?_, rfl⟩)
      have : waS k fm = i := fI_eq hi (fun j hj => decide_eq_false (hq j hj)) (decide_eq_true (h1.mp e))
      unfold waR
      rw [this, if_pos hi]
    · rw [if_pos e, Wp_l]
      have h2 := h2 e
      refine ⟨nI_1 i, rfl, ⟨a - b, fdT k, by omega, by omega, by rw [pk_sub (by omega)], ?_, ?_⟩, fun j hj => ?_⟩
      · rw [Nat.succ_mul]; omega
      · rw [Nat.succ_mul]; omega
      · by_cases r : j = i
        · rw [r]; omega
        · exact hq j (by omega)
  · obtain ⟨rfl, -, hq⟩ := hv
    unfold fX8_washed_L43_body
    rw [if_pos (show (10 : Int32) ≤ nI 10 by decide)]
    refine Wp_wr (Wp_of rfl ⟨?_, rfl⟩)
    have : waS k fm = 10 := fI_all (fun j hj => decide_eq_false (hq j hj))
    unfold waR
    rw [this, if_neg (by decide)]
def keS (k : Nat) (fm : Nat → Nat) (n : Nat) : Nat := cntN (fun h => decide (n * fdT k < fm h)) 12
theorem X7_keptL {w : Wd} {P k A W : Nat} {hb fm : Nat → Nat} (hs : ShX w) (hG : IsG w 123 k A W hb fm) (hC : CG P k A W hb fm) {n : Nat} (hn : n < 10) : Wp (fX7_kept_L52 0 (nI n) (0, w)) (fun q => q.1 = nI (keS k fm n) ∧ Fr (cG3 123) w q.2) := by
  unfold fX7_kept_L52
  refine it_w1 (fun i v => Fr (cG3 123) w v ∧ WsI v k A W hb fm i) n (by omega) ⟨Fr.refl w, WsI_0 hG hC⟩ (fun i v hi hv => ?_) (fun v hv => ?_)
  · obtain ⟨hf, hw⟩ := hv
    have hsv := hf.shx hs
    obtain ⟨t1, -⟩ := hsv.T
    obtain ⟨g0, gr⟩ := GaS.sp hsv
    unfold fX7_kept_L52_body
    simp only [nI_le_iff (show n < 2147483648 by omega) (show i < 2147483648 by omega), if_neg (Nat.not_le.mpr hi), chk_t t1, gr, ob_s, chk_t (show isO v 123 2 from ⟨by have := g0.1; omega, g0.2.1⟩)]
    refine Wp_c (WsI_s hsv hC hw) (fun u hu => ?_)
    rw [Wp_l]
    exact ⟨nI_1 i, hf.trans hu.1, hu.2⟩
  · obtain ⟨hf, hb', fm', hG', hl⟩ := hv
    have hsv := hf.shx hs
    obtain ⟨t1, -⟩ := hsv.T
    obtain ⟨g0, gr⟩ := GaS.sp hsv
    unfold fX7_kept_L52_body
    simp only [Int32.le_refl, if_true, chk_t t1, gr, ob_s, chk_t (show isO v 123 2 from ⟨by have := g0.1; omega, g0.2.1⟩), X2_countHabits g0]
    refine Wp_wr (Wp_of rfl ⟨?_, hf⟩)
    refine congrArg nI (cntN_congr 12 (fun i hi => ?_))
    obtain ⟨l1, l2, l3⟩ := hl i hi
    have e := (hG'.2 i hi).1
    have e' : (wI v (123 + 1) i = 0) = (hb' i = 0) := by rw [e]; exact eqL0 (by omega)
    simp only [e']
    by_cases q : n * fdT k < fm i
    · rw [decide_eq_true q, decide_eq_true (show ¬ hb' i = 0 by omega)]
    · rw [decide_eq_false q, decide_eq_false (show ¬ ¬ hb' i = 0 by omega)]
theorem X8_keptL {w : Wd} {C : Cl} (hc : ShM w) (hx : IsM w C) (hI : CI C) {g n : Nat} (hg : g < cG C) (hn : n < 10) : fX8_kept_L33 0 (nI g) (nI n) (0, 0, w) = some (nI (keS (cKd C g) (cFm C g) n), w) := by
  have a0 := hc.O
  have hG : cG C ≤ 8 := hI.1.2
  have hk := (hI.2.2 g hg).1.1
  obtain ⟨d1, d2, d3⟩ := hc.a10
  obtain ⟨e1, e2, e3⟩ := hc.a6
  obtain ⟨b1, b2⟩ := inb8 (show g < 8 by omega)
  have hfd := fdT_le (cKd C g) (by omega)
  have hnf : n * fdT (cKd C g) ≤ 9 * 9 := Nat.mul_le_mul (by omega) hfd
  unfold fX8_kept_L33
  refine it_for (fun i => (nI (cntN (fun h => decide (n * fdT (cKd C g) < cFm C g h)) i), nI i, w)) 12 (by decide) (fun i hi => ?_) ?_
  · obtain ⟨m1, m2⟩ := inb96 (show g < 8 by omega) hi
    have hfm := ((hI.2.2 g hg).2 i hi).2.1
    unfold fX8_kept_L33_body
    simp only [leL12 (show i < 2147483648 by omega), if_neg (Nat.not_le.mpr hi), chk_t a0, d1, ob_s, chk_t d2, d3, tw_mul_nI, nI_add, chk_t m1, m2, e1, chk_t e2, e3, chk_t b1, b2, (hx.2.2 g hg).1.1, X8_washedBy w _ (show cKd C g < 7 by omega), ((hx.2.2 g hg).2 i hi).2, pk_mul, nI_le_iff (show cFm C g i < 2147483648 by omega) (show n * fdT (cKd C g) < 2147483648 by omega), fX8_kept_b69, nI_1]
    by_cases e : cFm C g i ≤ n * fdT (cKd C g)
    · rw [if_pos e, cntN_s, if_neg (by simp; omega)]
      rfl
    · rw [if_neg e, cntN_s, if_pos (by simp; omega)]
  · rfl
