/-! what a row tells -/
theorem Wp_eq {α : Type} {o : Option (α × Wd)} {r : α} {w : Wd} (h : Wp o (fun q => q.1 = r ∧ q.2 = w)) : o = some (r, w) := by
  obtain ⟨⟨a, b⟩, e, h1, h2⟩ := h
  rw [e]
  have h1 : a = r := h1
  have h2 : b = w := h2
  rw [h1, h2]
def TX (w : Wd) (s m : Nat) (d : Nat → Int32) : Prop := (m ≤ 160 ∧ wI w (135 + 2 * s) 1 = nI m) ∧ ∀ i, i < m → (wL w (136 + 2 * s) i).toInt32 = d i
def TM (w : Wd) (s m : Nat) (d : Nat → Int32) : Prop := (m ≤ 160 ∧ wI w 2 s = nI m) ∧ ∀ i, i < m → (wL w 3 (160 * s + i)).toInt32 = d i
theorem TX.fr {S : Nat → Nat → Prop} {w w' : Wd} {s m : Nat} {d : Nat → Int32} (h : TX w s m d) (hf : Fr S w w') (hS : ¬ S (135 + 2 * s) 1) : TX w' s m d := by
  refine ⟨⟨h.1.1, ?_⟩, ?_⟩
  · rw [hf.at hS]; exact h.1.2
  · rw [hf.L]; exact h.2
theorem TM.fr {S : Nat → Nat → Prop} {w w' : Wd} {s m : Nat} {d : Nat → Int32} (h : TM w s m d) (hf : Fr S w w') (hS : ¬ S 2 s) : TM w' s m d := by
  refine ⟨⟨h.1.1, ?_⟩, ?_⟩
  · rw [hf.at hS]; exact h.1.2
  · rw [hf.L]; exact h.2
theorem ShX.S {w : Wd} (hs : ShX w) {s : Nat} (h8 : s < 8) : wR w 1 s = some (135 + 2 * s) ∧ isO w (135 + 2 * s) 6 ∧ wR w (135 + 2 * s) 0 = some (136 + 2 * s) ∧ isA w (136 + 2 * s) 1 ∧ wn w (136 + 2 * s) = 160 := by
  obtain ⟨⟨h1, h2, h3, h4, h5⟩, h6⟩ := hs.sf h8
  have e : 135 + 2 * s + 1 = 136 + 2 * s := by omega
  rw [e] at h1 h3 h4 h5
  exact ⟨h6, ⟨by omega, h2⟩, h3, ⟨h1, h4⟩, h5⟩
theorem X6_intAt {w : Wd} (hs : ShX w) {s m : Nat} {d : Nat → Int32} (h8 : s < 8) (ht : TX w s m d) {i : Nat} (hi : i < 2147483648) : fX6_intAt (135 + 2 * s) (nI i) w = some (if i < m then d i else 0, w) := by
  obtain ⟨s1, s2, s3, s4, s5⟩ := hs.S h8
  have hm := ht.1.1
  unfold fX6_intAt
  simp only [if_neg (nI_pos (show i < 2147483648 by omega)), chk_t s2, ht.1.2, nI_le_iff (show m < 2147483648 by omega) (show i < 2147483648 by omega)]
  by_cases e : i < m
  · simp only [if_neg (Nat.not_le.mpr e), s3, ob_s, chk_t s4, s5, chk_t (inb_nI (show i < 160 by omega) (by decide)), nI_clamp (show i < 2 ^ 31 by omega), ht.2 i e, fX6_intAt_b23, if_pos e]
  · simp only [if_pos (Nat.not_lt.mp e), if_neg e, fX6_intAt_b22, fX6_intAt_b23]
theorem X8_told {w : Wd} (hc : ShM w) {s m : Nat} {d : Nat → Int32} (h8 : s < 8) (ht : TM w s m d) {i : Nat} (hi : i < m) : fX8_told 0 (nI s) (nI i) w = some (d i, w) := by
  have hm := ht.1.1
  obtain ⟨r1, r2, r3⟩ := hc.a3
  unfold fX8_told
  simp only [chk_t hc.O, r1, ob_s, chk_t r2, r3, show (160 : Int32) * nI s = nI (160 * s) from nI_mul 160 s, nI_add, chk_t (inb_nI (show 160 * s + i < 1280 by omega) (by decide)), nI_clamp (show 160 * s + i < 2 ^ 31 by omega), ht.2 i hi]
/-! fitting -/
def alB (f : Nat → Bool) : Nat → Bool
  | 0 => true
  | n + 1 => alB f n && f n
theorem alB_t {f : Nat → Bool} : ∀ n, (∀ h, h < n → f h = true) → alB f n = true
  | 0, _ => rfl
  | n + 1, h => by
    show (alB f n && f n) = true
    rw [alB_t n (fun i hi => h i (by omega)), h n (Nat.lt_succ_self n)]
    rfl
theorem alB_e {f : Nat → Bool} : ∀ n, alB f n = true → ∀ h, h < n → f h = true
  | 0, _, h, q => absurd q (Nat.not_lt_zero h)
  | n + 1, e, h, q => by
    have e : (alB f n && f n) = true := e
    rw [Bool.and_eq_true] at e
    by_cases r : h = n
    · rw [r]; exact e.2
    · exact alB_e n e.1 h (by omega)
def ftB (C : Cl) (d : Nat → Int32) (p : Nat) : Bool := alB (fun h => decide (d h = -1 ∨ d h = nI (doesS C p h))) 12
theorem ftB_t {C : Cl} {d : Nat → Int32} {p : Nat} (h : ∀ h, h < 12 → d h = -1 ∨ d h = nI (doesS C p h)) : ftB C d p = true := alB_t 12 (fun i hi => decide_eq_true (h i hi))
theorem ftB_f {C : Cl} {d : Nat → Int32} {p : Nat} (h : ¬ ∀ h, h < 12 → d h = -1 ∨ d h = nI (doesS C p h)) : ftB C d p = false := by
  cases e : ftB C d p with
  | true => exact absurd (fun i hi => of_decide_eq_true (alB_e 12 e i hi)) h
  | false => rfl
theorem X7_isFitting {w : Wd} {C : Cl} (hs : ShX w) (hx : IsX w 3 C) (hI : CI C) {s m p : Nat} {d : Nat → Int32} (h8 : s < 8) (ht : TX w s m d) (h12 : 12 ≤ m) (hp : p < cP C) : fX7_isFitting 0 (nI p) (135 + 2 * s) w = some (if ftB C d p then 1 else 0, w) := by
  have hc := hs.cl (b := 3) (Or.inl rfl)
  obtain ⟨a1, -⟩ := hc.B
  obtain ⟨t1, t2, t3, t4, t5, -⟩ := hs.T
  obtain ⟨s1, s2, s3, s4, s5⟩ := hs.S h8
  refine Wp_eq ?_
  unfold fX7_isFitting fX7_isFitting_L2
  refine it_w1 (fun i v => v = w ∧ ∀ h, h < i → d h = -1 ∨ d h = nI (doesS C p h)) 12 (by decide) ⟨rfl, fun h q => absurd q (Nat.not_lt_zero h)⟩ (fun i v hi hv => ?_) (fun v hv => ?_)
  · obtain ⟨rfl, hv⟩ := hv
    unfold fX7_isFitting_L2_body
    simp only [leL12 (show i < 2147483648 by omega), if_neg (Nat.not_le.mpr hi), chk_t s2, X6_intAt hs h8 ht (show i < 2147483648 by omega), if_pos (show i < m by omega), ob_s, chk_t t1, t4, chk_t a1, X0_deedOf hc hx hI hp hi, fX7_isFitting_b37]
    by_cases e1 : d i = -1
    · simp only [if_pos e1, Wp_l]
      refine ⟨nI_1 i, trivial, fun h hh => ?_⟩
      by_cases r : h = i
      · rw [r]; exact Or.inl e1
      · exact hv h (by omega)
    · simp only [if_neg e1]
      by_cases e2 : d i = nI (doesS C p i)
      · simp only [if_pos e2, Wp_l]
        refine ⟨nI_1 i, trivial, fun h hh => ?_⟩
        by_cases r : h = i
        · rw [r]; exact Or.inr e2
        · exact hv h (by omega)
      · simp only [if_neg e2]
        refine Wp_wr (Wp_of rfl ⟨?_, rfl⟩)
        have : ftB C d p = false := ftB_f (fun q => by
          rcases q i hi with r | r
          · exact e1 r
          · exact e2 r)
        rw [this]
        rfl
  · obtain ⟨rfl, hv⟩ := hv
    unfold fX7_isFitting_L2_body
    rw [if_pos (show (12 : Int32) ≤ nI 12 by decide)]
    refine Wp_wr (Wp_of rfl ⟨?_, rfl⟩)
    have : ftB C d p = true := ftB_t hv
    rw [this]
    rfl
theorem X7_fitsL {w : Wd} {C : Cl} (hs : ShX w) (hx : IsX w 3 C) (hI : CI C) {s m : Nat} {d : Nat → Int32} (h8 : s < 8) (ht : TX w s m d) (h12 : 12 ≤ m) : fX7_fits_L21 0 (nI s) (0, 0, w) = some (nI (bN (ftB C d) (cP C)), w) := by
  have hP : cP C ≤ 6 := hI.1.1
  have hc := hs.cl (b := 3) (Or.inl rfl)
  obtain ⟨a1, -⟩ := hc.B
  obtain ⟨t1, t2, t3, t4, t5, t6, t7, -⟩ := hs.T
  obtain ⟨s1, s2, s3, s4, s5⟩ := hs.S h8
  obtain ⟨b1, b2⟩ := inb8 h8
  unfold fX7_fits_L21
  refine it_for (fun i => (nI (bN (ftB C d) i), nI i, w)) (cP C) (by omega) (fun i hi => ?_) ?_
  · unfold fX7_fits_L21_body
    simp only [chk_t t1, t4, ob_s, chk_t a1, hx.1.1, nI_le_iff (show cP C < 2147483648 by omega) (show i < 2147483648 by omega), if_neg (Nat.not_le.mpr hi), t2, chk_t t6, t7, chk_t b1, b2, s1, X7_isFitting hs hx hI h8 ht h12 hi, fX7_fits_b55, bnd_e, or_bit i (by omega) _ (bN_256 (ftB C d) (show i ≤ 8 by omega)), nI_1]
    rw [bN_s]
    cases ftB C d i with
    | true => rw [if_neg (by decide), if_pos rfl]
    | false => rw [if_pos (by decide), if_neg (by decide)]
  · unfold fX7_fits_L21_body
    simp only [chk_t t1, t4, ob_s, chk_t a1, hx.1.1, Int32.le_refl, if_true]
    rfl
theorem X8_fitsI {w : Wd} {C : Cl} (hc : ShM w) (hx : IsM w C) (hI : CI C) {s m p : Nat} {d : Nat → Int32} (h8 : s < 8) (ht : TM w s m d) (h12 : 12 ≤ m) (hp : p < cP C) (x : Int32) {P : Int32 × Wd → Prop} {I : Int32 × Int32 × Wd → Prop} (hP : I ((if ftB C d p then x ||| ((1 : Int32) <<< (nI p &&& 31)) else x), nI (p + 1), w)) : Wp (fX8_fits_L36 0 (nI s) x (nI p) (1, 0, w)) (lp I P) := by
  have a0 := hc.O
  unfold fX8_fits_L36
  refine it_w2 (fun i y v => v = w ∧ (y = 1 ∧ (∀ h, h < i → d h = -1 ∨ d h = nI (doesS C p h)) ∨ y = 0 ∧ ¬ ∀ h, h < i → d h = -1 ∨ d h = nI (doesS C p h))) 12 (by decide) ⟨rfl, Or.inl ⟨rfl, fun h q => absurd q (Nat.not_lt_zero h)⟩⟩ (fun i y v hi hv => ?_) (fun y v hv => ?_)
  · obtain ⟨rfl, hv⟩ := hv
    have yes : (d i = -1 ∨ d i = nI (doesS C p i)) → (y = 1 ∧ (∀ h, h < i + 1 → d h = -1 ∨ d h = nI (doesS C p h)) ∨ y = 0 ∧ ¬ ∀ h, h < i + 1 → d h = -1 ∨ d h = nI (doesS C p h)) := by
      intro e
      rcases hv with ⟨z1, z2⟩ | ⟨z1, z2⟩
      · refine Or.inl ⟨z1, fun h hh => ?_⟩
        by_cases r : h = i
        · rw [r]; exact e
        · exact z2 h (by omega)
      · exact Or.inr ⟨z1, fun r => z2 (fun h hh => r h (by omega))⟩
    unfold fX8_fits_L36_body
    simp only [leL12 (show i < 2147483648 by omega), if_neg (Nat.not_le.mpr hi), chk_t a0, X8_told hc h8 ht (show i < m by omega), ob_s, X8_doesNow hc hx hI hp hi, fX8_fits_b75]
    by_cases e1 : d i = -1
    · simp only [if_pos e1, Wp_l]
      exact ⟨nI_1 i, trivial, yes (Or.inl e1)⟩
    · simp only [if_neg e1]
      by_cases e2 : d i = nI (doesS C p i)
      · simp only [if_pos e2, Wp_l]
        exact ⟨nI_1 i, trivial, yes (Or.inr e2)⟩
      · simp only [if_neg e2, Wp_l]
        refine ⟨nI_1 i, trivial, Or.inr ⟨trivial, fun q => ?_⟩⟩
        rcases q i (Nat.lt_succ_self i) with r | r
        · exact e1 r
        · exact e2 r
  · obtain ⟨rfl, hv⟩ := hv
    unfold fX8_fits_L36_body
    rw [if_pos (show (12 : Int32) ≤ nI 12 by decide)]
    refine Wp_wr ?_
    rcases hv with ⟨z1, z2⟩ | ⟨z1, z2⟩
    · have : ftB C d p = true := ftB_t z2
      rw [this, if_pos rfl] at hP
      have z1 : y = 1 := z1
      simp only [z1, if_neg n10, bnd_e, fX8_fits_b93, Wp_l, nI_1]
      exact hP
    · have : ftB C d p = false := ftB_f z2
      rw [this, if_neg Bool.false_ne_true] at hP
      have z1 : y = 0 := z1
      simp only [z1, if_true, fX8_fits_b93, Wp_l, nI_1]
      exact hP
theorem X8_fitsL {w : Wd} {C : Cl} (hc : ShM w) (hx : IsM w C) (hI : CI C) {s m : Nat} {d : Nat → Int32} (h8 : s < 8) (ht : TM w s m d) (h12 : 12 ≤ m) : fX8_fits_L21 0 (nI s) (0, 0, w) = some (nI (bN (ftB C d) (cP C)), w) := by
  have hP : cP C ≤ 6 := hI.1.1
  have a0 := hc.O
  refine Wp_eq ?_
  unfold fX8_fits_L21
  refine it_w2 (fun i x v => v = w ∧ x = nI (bN (ftB C d) i)) (cP C) (by omega) ⟨rfl, rfl⟩ (fun i x v hi hv => ?_) (fun x v hv => ?_)
  · obtain ⟨rfl, rfl⟩ := hv
    unfold fX8_fits_L21_body
    simp only [chk_t a0, hx.1.1, nI_le_iff (show cP C < 2147483648 by omega) (show i < 2147483648 by omega), if_neg (Nat.not_le.mpr hi)]
    refine X8_fitsI hc hx hI h8 ht h12 hi _ ⟨rfl, rfl, ?_⟩
    show (if ftB C d i = true then _ else _) = nI (bN (ftB C d) (i + 1))
    rw [or_bit i (by omega) _ (bN_256 (ftB C d) (show i ≤ 8 by omega)), bN_s]
    cases ftB C d i with
    | true => rw [if_pos rfl, if_pos rfl]
    | false => rw [if_neg (by decide), if_neg (by decide)]
  · obtain ⟨rfl, rfl⟩ := hv
    unfold fX8_fits_L21_body
    simp only [chk_t a0, hx.1.1, Int32.le_refl, if_true]
    exact Wp_wr (Wp_of rfl ⟨rfl, rfl⟩)
/-! a told day -/
def juS (C : Cl) (d : Nat → Int32) (p : Nat) : Nat := fI (fun h => decide (d h ≠ nI (doesS C p h))) 12
def juR (C : Cl) (d : Nat → Int32) (p : Nat) : Int32 := if juS C d p < 12 then nI (juS C d p) else -1
theorem X7_judgeL {w : Wd} {C : Cl} (hs : ShX w) (hx : IsX w 3 C) (hI : CI C) {s m p : Nat} {d : Nat → Int32} (h8 : s < 8) (ht : TX w s m d) (h12 : 12 ≤ m) (hp : p < cP C) : fX7_judge_L43 0 (nI s) (nI p) (0, w) = some (juR C d p, w) := by
  have hc := hs.cl (b := 3) (Or.inl rfl)
  obtain ⟨a1, -⟩ := hc.B
  obtain ⟨t1, t2, t3, t4, t5, t6, t7, -⟩ := hs.T
  obtain ⟨s1, s2, s3, s4, s5⟩ := hs.S h8
  obtain ⟨b1, b2⟩ := inb8 h8
  refine Wp_eq ?_
  unfold fX7_judge_L43
  refine it_w1 (fun i v => v = w ∧ ∀ h, h < i → decide (d h ≠ nI (doesS C p h)) = false) 12 (by decide) ⟨rfl, fun h q => absurd q (Nat.not_lt_zero h)⟩ (fun i v hi hv => ?_) (fun v hv => ?_)
  · obtain ⟨rfl, hv⟩ := hv
    unfold fX7_judge_L43_body
    simp only [leL12 (show i < 2147483648 by omega), if_neg (Nat.not_le.mpr hi), chk_t t1, t2, ob_s, chk_t t6, t7, chk_t b1, b2, s1, chk_t s2, X6_intAt hs h8 ht (show i < 2147483648 by omega), if_pos (show i < m by omega), t4, chk_t a1, X0_deedOf hc hx hI hp hi]
    by_cases e : d i = nI (doesS C p i)
    · simp only [if_pos e, Wp_l]
      refine ⟨nI_1 i, trivial, fun h hh => ?_⟩
      by_cases r : h = i
      · rw [r]; exact decide_eq_false (not_not_intro e)
      · exact hv h (by omega)
    · simp only [if_neg e]
      refine Wp_wr (Wp_of rfl ⟨?_, rfl⟩)
      have : juS C d p = i := fI_eq hi hv (decide_eq_true e)
      unfold juR
      rw [this, if_pos hi]
  · obtain ⟨rfl, hv⟩ := hv
    unfold fX7_judge_L43_body
    rw [if_pos (show (12 : Int32) ≤ nI 12 by decide)]
    refine Wp_wr (Wp_of rfl ⟨?_, rfl⟩)
    have : juS C d p = 12 := fI_all hv
    unfold juR
    rw [this, if_neg (by decide)]
theorem X8_judgeL {w : Wd} {C : Cl} (hc : ShM w) (hx : IsM w C) (hI : CI C) {s m p : Nat} {d : Nat → Int32} (h8 : s < 8) (ht : TM w s m d) (h12 : 12 ≤ m) (hp : p < cP C) : fX8_judge_L33 0 (nI s) (nI p) (0, w) = some (juR C d p, w) := by
  have a0 := hc.O
  refine Wp_eq ?_
  unfold fX8_judge_L33
  refine it_w1 (fun i v => v = w ∧ ∀ h, h < i → decide (d h ≠ nI (doesS C p h)) = false) 12 (by decide) ⟨rfl, fun h q => absurd q (Nat.not_lt_zero h)⟩ (fun i v hi hv => ?_) (fun v hv => ?_)
  · obtain ⟨rfl, hv⟩ := hv
    have hl := does_le hI hp hi
    unfold fX8_judge_L33_body
    simp only [leL12 (show i < 2147483648 by omega), if_neg (Nat.not_le.mpr hi), chk_t a0, X8_told hc h8 ht (show i < m by omega), ob_s, X8_isDigit, X8_doesNow hc hx hI hp hi, fX8_judge_b70]
    have no : ¬ d i = nI (doesS C p i) → juR C d p = nI i := by
      intro e
      have : juS C d p = i := fI_eq hi hv (decide_eq_true e)
      unfold juR
      rw [this, if_pos hi]
    by_cases e0 : isN (d i) 10
    · simp only [bI_t e0, if_neg n10]
      by_cases e : d i = nI (doesS C p i)
      · simp only [if_pos e, Wp_l]
        refine ⟨nI_1 i, trivial, fun h hh => ?_⟩
        by_cases r : h = i
        · rw [r]; exact decide_eq_false (not_not_intro e)
        · exact hv h (by omega)
      · simp only [if_neg e]
        exact Wp_wr (Wp_of rfl ⟨(no e).symm, rfl⟩)
    · simp only [bI_f e0, if_true]
      refine Wp_wr (Wp_of rfl ⟨(no (fun q => e0 ?_)).symm, rfl⟩)
      rw [q]
      exact isN_nI (by omega) (by omega)
  · obtain ⟨rfl, hv⟩ := hv
    unfold fX8_judge_L33_body
    rw [if_pos (show (12 : Int32) ≤ nI 12 by decide)]
    refine Wp_wr (Wp_of rfl ⟨?_, rfl⟩)
    have : juS C d p = 12 := fI_all hv
    unfold juR
    rw [this, if_neg (by decide)]
