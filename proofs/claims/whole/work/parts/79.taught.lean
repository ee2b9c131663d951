/-! taught -/
def tlN (k : Nat) (hb fm d : Nat → Nat) : Nat → Nat → Nat × Nat
  | 0, h => (hb h, fm h)
  | n + 1, h => lrS k (tlN k hb fm d n h).1 (tlN k hb fm d n h).2 (d h)
theorem tl_le {P k A W : Nat} {hb fm d : Nat → Nat} (hC : CG P k A W hb fm) (hd : ∀ h, h < 12 → d h ≤ 9) : ∀ n h, h < 12 → (tlN k hb fm d n h).1 ≤ 9 ∧ (tlN k hb fm d n h).2 ≤ 9 ∧ ((tlN k hb fm d n h).1 = 0 ↔ (tlN k hb fm d n h).2 = 0)
  | 0, h, hh => hC.2 h hh
  | n + 1, h, hh => by
    obtain ⟨h1, h2, h3⟩ := tl_le hC hd n h hh
    exact lrS_le h1 h2 h3 (hd h hh)
def tlI (k : Nat) (hb fm d : Nat → Nat) (n i h : Nat) : Nat × Nat := if h < i then tlN k hb fm d (n + 1) h else tlN k hb fm d n h
theorem tlI_i (k : Nat) (hb fm d : Nat → Nat) (n i : Nat) : tlI k hb fm d n i i = tlN k hb fm d n i := if_neg (Nat.lt_irrefl i)
theorem tlI_0 (k : Nat) (hb fm d : Nat → Nat) (n : Nat) : tlI k hb fm d n 0 = tlN k hb fm d n := funext fun h => if_neg (Nat.not_lt_zero h)
theorem tlI_s (k : Nat) (hb fm d : Nat → Nat) (n i h : Nat) : tlI k hb fm d n (i + 1) h = if h = i then tlN k hb fm d (n + 1) i else tlI k hb fm d n i h := by
  unfold tlI
  by_cases e : h = i
  · subst e
    rw [if_pos rfl, if_pos (Nat.lt_succ_self h)]
  · rw [if_neg e]
    by_cases q : h < i
    · rw [if_pos q, if_pos (by omega)]
    · rw [if_neg q, if_neg (by omega)]
theorem IsG.cg {w : Wd} {a k A W : Nat} {hb fm hb' fm' : Nat → Nat} (hG : IsG w a k A W hb fm) (h : ∀ i, i < 12 → hb i = hb' i ∧ fm i = fm' i) : IsG w a k A W hb' fm' := ⟨hG.1, fun i hi => by rw [← (h i hi).1, ← (h i hi).2]; exact hG.2 i hi⟩
theorem IsH.cg {w : Wd} {a k A W : Nat} {hb fm hb' fm' : Nat → Nat} (hG : IsH w a k A W hb fm) (h : ∀ i, i < 12 → hb i = hb' i ∧ fm i = fm' i) : IsH w a k A W hb' fm' := ⟨hG.1, fun i hi => by rw [← (h i hi).1, ← (h i hi).2]; exact hG.2 i hi⟩
def IsT (w : Wd) (k A W : Nat) (hb fm d : Nat → Nat) (n i : Nat) : Prop := IsG w 123 k A W (fun h => (tlI k hb fm d n i h).1) (fun h => (tlI k hb fm d n i h).2)
def IsU (w : Wd) (g k A W : Nat) (hb fm d : Nat → Nat) (n i : Nat) : Prop := IsH w g k A W (fun h => (tlI k hb fm d n i h).1) (fun h => (tlI k hb fm d n i h).2)
theorem tlI_12 (k : Nat) (hb fm d : Nat → Nat) (n : Nat) {h : Nat} (hh : h < 12) : tlI k hb fm d n 12 h = tlI k hb fm d (n + 1) 0 h := by
  rw [tlI_0]
  exact if_pos hh
def tauB (k : Nat) (hb fm d : Nat → Nat) (n : Nat) : Bool := alB (fun h => decide (d h = 0 ∨ (tlN k hb fm d n h).1 = d h)) 12
theorem tauB_t {k n : Nat} {hb fm d : Nat → Nat} (h : ∀ h, h < 12 → d h = 0 ∨ (tlN k hb fm d n h).1 = d h) : tauB k hb fm d n = true := alB_t 12 (fun i hi => decide_eq_true (h i hi))
theorem tauB_f {k n : Nat} {hb fm d : Nat → Nat} (h : ¬ ∀ h, h < 12 → d h = 0 ∨ (tlN k hb fm d n h).1 = d h) : tauB k hb fm d n = false := by
  cases e : tauB k hb fm d n with
  | true => exact absurd (fun i hi => of_decide_eq_true (alB_e 12 e i hi)) h
  | false => rfl
def tauS (k : Nat) (hb fm d : Nat → Nat) : Nat := fI (tauB k hb fm d) 61
def tauR (k : Nat) (hb fm d : Nat → Nat) : Int32 := if tauS k hb fm d < 61 then nI (tauS k hb fm d) else -1
theorem X6_tells {w : Wd} (hs : ShX w) {s m : Nat} {d : Nat → Int32} (h8 : s < 8) (ht : TX w s m d) (h12 : 12 ≤ m) : fX6_tellsDeedsAlone (135 + 2 * s) w = some (if alB (fun h => decide (isN (d h) 10)) 12 then 1 else 0, w) := by
  obtain ⟨s1, s2, s3, s4, s5⟩ := hs.S h8
  refine Wp_eq ?_
  unfold fX6_tellsDeedsAlone fX6_tellsDeedsAlone_L2
  refine it_w1 (fun i v => v = w ∧ ∀ h, h < i → decide (isN (d h) 10) = true) 12 (by decide) ⟨rfl, fun h q => absurd q (Nat.not_lt_zero h)⟩ (fun i v hi hv => ?_) (fun v hv => ?_)
  · obtain ⟨rfl, hv⟩ := hv
    unfold fX6_tellsDeedsAlone_L2_body
    simp only [leL12 (show i < 2147483648 by omega), if_neg (Nat.not_le.mpr hi), chk_t s2, X6_intAt hs h8 ht (show i < 2147483648 by omega), if_pos (show i < m by omega), ob_s, X7_isDigit]
    by_cases e : isN (d i) 10
    · simp only [bI_t e, if_neg n10, Wp_l]
      refine ⟨nI_1 i, trivial, fun h hh => ?_⟩
      by_cases r : h = i
      · rw [r]; exact decide_eq_true e
      · exact hv h (by omega)
    · simp only [bI_f e, if_true]
      refine Wp_wr (Wp_of rfl ⟨?_, rfl⟩)
      rw [if_neg (fun q => e (of_decide_eq_true (alB_e 12 q i hi)))]
  · obtain ⟨rfl, hv⟩ := hv
    unfold fX6_tellsDeedsAlone_L2_body
    rw [if_pos (show (12 : Int32) ≤ nI 12 by decide)]
    refine Wp_wr (Wp_of rfl ⟨?_, rfl⟩)
    rw [if_pos (alB_t 12 hv)]
theorem X2_hasLearnt {w : Wd} (hs : ShX w) {s m n k A W : Nat} {d : Nat → Int32} {hb fm dn : Nat → Nat} (h8 : s < 8) (ht : TX w s m d) (h12 : 12 ≤ m) (hd : ∀ h, h < 12 → d h = nI (dn h) ∧ dn h ≤ 9) (hG : IsT w k A W hb fm dn n 0) (hl : ∀ h, h < 12 → (tlN k hb fm dn n h).1 ≤ 9) :
    fX2_hasLearnt 123 (135 + 2 * s) w = some (if tauB k hb fm dn n then 1 else 0, w) := by
  obtain ⟨s1, s2, s3, s4, s5⟩ := hs.S h8
  obtain ⟨g1, g2, g3, g4, g5, g6, g7, g8⟩ := hs.spare
  refine Wp_eq ?_
  unfold fX2_hasLearnt fX2_hasLearnt_L2
  refine it_w1 (fun i v => v = w ∧ ∀ h, h < i → dn h = 0 ∨ (tlN k hb fm dn n h).1 = dn h) 12 (by decide) ⟨rfl, fun h q => absurd q (Nat.not_lt_zero h)⟩ (fun i v hi hv => ?_) (fun v hv => ?_)
  · obtain ⟨rfl, hv⟩ := hv
    obtain ⟨n1, n2⟩ := inb12 hi
    obtain ⟨d1, d2⟩ := hd i hi
    have l1 := hl i hi
    have e0 : wI v (123 + 1) i = nI (tlN k hb fm dn n i).1 := by
      have := (hG.2 i hi).1
      rw [tlI_0] at this
      exact this
    unfold fX2_hasLearnt_L2_body
    simp only [leL12 (show i < 2147483648 by omega), if_neg (Nat.not_le.mpr hi), chk_t s2, X6_intAt hs h8 ht (show i < 2147483648 by omega), if_pos (show i < m by omega), ob_s, d1, eqL0 (show dn i < 2147483648 by omega), chk_t (show isO v 123 2 from ⟨by omega, g2⟩), g3, chk_t (show isA v (123 + 1) 0 from ⟨by omega, g5⟩), g6, chk_t n1, n2, e0, nI_eq_iff (show (tlN k hb fm dn n i).1 < 2147483648 by omega) (show dn i < 2147483648 by omega), fX2_hasLearnt_b30]
    by_cases e1 : dn i = 0
    · simp only [if_pos e1, Wp_l]
      refine ⟨nI_1 i, trivial, fun h hh => ?_⟩
      by_cases r : h = i
      · rw [r]; exact Or.inl e1
      · exact hv h (by omega)
    · simp only [if_neg e1]
      by_cases e2 : (tlN k hb fm dn n i).1 = dn i
      · simp only [if_pos e2, Wp_l]
        refine ⟨nI_1 i, trivial, fun h hh => ?_⟩
        by_cases r : h = i
        · rw [r]; exact Or.inr e2
        · exact hv h (by omega)
      · simp only [if_neg e2]
        refine Wp_wr (Wp_of rfl ⟨?_, rfl⟩)
        have : tauB k hb fm dn n = false := tauB_f (fun q => by
          rcases q i hi with r | r
          · exact e1 r
          · exact e2 r)
        rw [this]
        rfl
  · obtain ⟨rfl, hv⟩ := hv
    unfold fX2_hasLearnt_L2_body
    rw [if_pos (show (12 : Int32) ≤ nI 12 by decide)]
    refine Wp_wr (Wp_of rfl ⟨?_, rfl⟩)
    have : tauB k hb fm dn n = true := tauB_t hv
    rw [this]
    rfl
theorem X2_learnDay {w : Wd} (hs : ShX w) {s m n P k A W : Nat} {d : Nat → Int32} {hb fm dn : Nat → Nat} (h8 : s < 8) (ht : TX w s m d) (h12 : 12 ≤ m) (hd : ∀ h, h < 12 → d h = nI (dn h) ∧ dn h ≤ 9) (hC : CG P k A W hb fm) (hG : IsT w k A W hb fm dn n 0) :
    Wp (fX2_learnDay 123 (135 + 2 * s) w) (fun v => Fr (cG3 123) w v ∧ IsT v k A W hb fm dn (n + 1) 0) := by
  unfold fX2_learnDay fX2_learnDay_L2
  refine it_w1 (fun i v => Fr (cG3 123) w v ∧ IsT v k A W hb fm dn n i) 12 (by decide) ⟨Fr.refl w, hG⟩ (fun i v hi hv => ?_) (fun v hv => ?_)
  · obtain ⟨hf, hv⟩ := hv
    have hsv := hf.shx hs
    have htv := ht.fr hf (by unfold cG3; omega)
    obtain ⟨s1, s2, s3, s4, s5⟩ := hsv.S h8
    obtain ⟨g1, g2, g3, g4, g5, g6, g7, g8⟩ := id hsv.spare
    obtain ⟨d1, d2⟩ := hd i hi
    obtain ⟨l1, l2, l3⟩ := tl_le hC (fun h hh => (hd h hh).2) n i hi
    have e1 := (hv.2 i hi).1
    have e2 := (hv.2 i hi).2
    simp only [tlI_i] at e1 e2
    have hl := X2_learn (d := dn i) hsv.spare hv.1.1 (by have := hC.1.1; omega) hi e1 e2 l1 l2 l3 d2
    unfold fX2_learnDay_L2_body
    simp only [leL12 (show i < 2147483648 by omega), if_neg (Nat.not_le.mpr hi), chk_t s2, X6_intAt hsv h8 htv (show i < 2147483648 by omega), if_pos (show i < m by omega), ob_s, d1, chk_t (show isO v 123 2 from ⟨by omega, g2⟩), hl, Wp_l]
    refine ⟨nI_1 i, (hf.sI _ ⟨by decide, by decide⟩).sI _ ⟨by decide, by decide⟩, ?_⟩
    refine (IsG_f (IsG_h hv _) _).cg (fun h hh => ?_)
    rw [tlI_s]
    unfold upN
    by_cases e : h = i
    · rw [if_pos e, if_pos e, if_pos e]
      exact ⟨rfl, rfl⟩
    · rw [if_neg e, if_neg e, if_neg e]
      exact ⟨rfl, rfl⟩
  · obtain ⟨hf, hv⟩ := hv
    unfold fX2_learnDay_L2_body
    rw [if_pos (show (12 : Int32) ≤ nI 12 by decide)]
    refine Wp_wr (Wp_of rfl ⟨hf, hv.cg (fun h hh => ?_)⟩)
    rw [tlI_12 k hb fm dn n hh]
    exact ⟨rfl, rfl⟩
theorem X7_taughtL {w : Wd} (hs : ShX w) {s m P k A W : Nat} {d : Nat → Int32} {hb fm dn : Nat → Nat} (h8 : s < 8) (ht : TX w s m d) (h12 : 12 ≤ m) (hd : ∀ h, h < 12 → d h = nI (dn h) ∧ dn h ≤ 9) (hC : CG P k A W hb fm) (hG : IsG w 123 k A W hb fm) :
    Wp (fX7_taught_L78 0 (nI s) (0, w)) (fun q => q.1 = tauR k hb fm dn ∧ Fr (cG3 123) w q.2) := by
  unfold fX7_taught_L78
  have h0 : IsT w k A W hb fm dn 0 0 := hG.cg (fun h hh => by rw [tlI_0]; exact ⟨rfl, rfl⟩)
  obtain ⟨b1, b2⟩ := inb8 h8
  refine it_w1 (fun i v => Fr (cG3 123) w v ∧ IsT v k A W hb fm dn i 0 ∧ ∀ j, j < i → tauB k hb fm dn j = false) 61 (by decide) ⟨Fr.refl w, h0, fun j q => absurd q (Nat.not_lt_zero j)⟩ (fun i v hi hv => ?_) (fun v hv => ?_)
  · obtain ⟨hf, hv, hq⟩ := hv
    have hsv := hf.shx hs
    have htv := ht.fr hf (by unfold cG3; omega)
    obtain ⟨t1, t2, t3, t4, t5, t6, t7, -⟩ := hsv.T
    obtain ⟨s1, s2, s3, s4, s5⟩ := hsv.S h8
    obtain ⟨g0, gr⟩ := GaS.sp hsv
    have hl := X2_hasLearnt hsv h8 htv h12 hd hv (fun h hh => (tl_le hC (fun h hh => (hd h hh).2) i h hh).1)
    unfold fX7_taught_L78_body
    simp only [ltL60 (show i < 2147483648 by omega), if_neg (show ¬ 60 < i by omega), chk_t t1, gr, t2, ob_s, chk_t t6, t7, chk_t b1, b2, s1, chk_t (show isO v 123 2 from ⟨by have := g0.1; omega, g0.2.1⟩), hl]
    cases e : tauB k hb fm dn i with
    | true =>
      simp only [if_true, if_neg n10]
      refine Wp_wr (Wp_of rfl ⟨?_, hf⟩)
      have : tauS k hb fm dn = i := fI_eq hi hq e
      unfold tauR
      rw [this, if_pos hi]
    | false =>
      simp only [if_neg Bool.false_ne_true, if_true]
      refine Wp_c (X2_learnDay hsv h8 htv h12 hd hC hv) (fun u hu => ?_)
      rw [Wp_l]
      refine ⟨nI_1 i, hf.trans hu.1, hu.2, fun j hj => ?_⟩
      by_cases r : j = i
      · rw [r]; exact e
      · exact hq j (by omega)
  · obtain ⟨hf, hv, hq⟩ := hv
    unfold fX7_taught_L78_body
    rw [if_pos (show (60 : Int32) < nI 61 by decide)]
    refine Wp_wr (Wp_of rfl ⟨?_, hf⟩)
    have : tauS k hb fm dn = 61 := fI_all hq
    unfold tauR
    rw [this, if_neg (by decide)]
/-! in the model -/
theorem X8_taughtD {w : Wd} (hc : ShM w) {s m n P g k A W : Nat} {d : Nat → Int32} {hb fm dn : Nat → Nat} (h8 : s < 8) (ht : TM w s m d) (h12 : 12 ≤ m) (hd : ∀ h, h < 12 → d h = nI (dn h) ∧ dn h ≤ 9) (hC : CG P k A W hb fm) (hg : g < 8) (hG : IsU w g k A W hb fm dn n 0) (x y : Int32) {Q : Int32 × Wd → Prop} {I : Int32 × Int32 × Wd → Prop} (hP : ∀ v, Fr cM9 w v → IsU v g k A W hb fm dn (n + 1) 0 → I (x, y + 1, v)) :
    Wp (fX8_taught_L159 0 (nI s) (nI g) x y (0, w)) (lp I Q) := by
  unfold fX8_taught_L159
  refine it_w1 (fun i v => Fr cM9 w v ∧ IsU v g k A W hb fm dn n i) 12 (by decide) ⟨Fr.refl w, hG⟩ (fun i v hi hv => ?_) (fun v hv => ?_)
  · obtain ⟨hf, hv⟩ := hv
    have hsv := hf.shm hc
    have htv := ht.fr hf (by unfold cM9; omega)
    obtain ⟨d1, d2⟩ := hd i hi
    obtain ⟨l1, l2, l3⟩ := tl_le hC (fun h hh => (hd h hh).2) n i hi
    have e1 := (hv.2 i hi).1
    have e2 := (hv.2 i hi).2
    simp only [tlI_i] at e1 e2
    have hl := X8_learns (d := dn i) hsv hg hv.1.1 (by have := hC.1.1; omega) hi e1 e2 l1 l2 l3 d2
    unfold fX8_taught_L159_body
    simp only [leL12 (show i < 2147483648 by omega), if_neg (Nat.not_le.mpr hi), chk_t hsv.O, X8_told hsv h8 htv (show i < m by omega), ob_s, d1, hl, Wp_l]
    refine ⟨nI_1 i, (hf.sI _ (Or.inl rfl)).sI _ (Or.inr rfl), ?_⟩
    refine (IsH_f (IsH_h hv hi _) hi _).cg (fun h hh => ?_)
    rw [tlI_s]
    unfold upN
    by_cases e : h = i
    · rw [if_pos e, if_pos e, if_pos e]
      exact ⟨rfl, rfl⟩
    · rw [if_neg e, if_neg e, if_neg e]
      exact ⟨rfl, rfl⟩
  · obtain ⟨hf, hv⟩ := hv
    unfold fX8_taught_L159_body
    rw [if_pos (show (12 : Int32) ≤ nI 12 by decide)]
    refine Wp_wr ?_
    rw [Wp_l]
    refine hP v hf (hv.cg (fun h hh => ?_))
    rw [tlI_12 k hb fm dn n hh]
    exact ⟨rfl, rfl⟩
theorem X8_taughtI {w : Wd} (hc : ShM w) {s m n P g k A W : Nat} {d : Nat → Int32} {hb fm dn : Nat → Nat} (h8 : s < 8) (ht : TM w s m d) (h12 : 12 ≤ m) (hd : ∀ h, h < 12 → d h = nI (dn h) ∧ dn h ≤ 9) (hC : CG P k A W hb fm) (hg : g < 8) (hG : IsU w g k A W hb fm dn n 0) (x y : Int32) {Q : Int32 × Wd → Prop} {I : Int32 × Int32 × Wd → Prop} (hP : ∀ v, Fr cM9 w v → IsU v g k A W hb fm dn (n + 1) 0 → I (if tauB k hb fm dn n then y else x, y + 1, v)) :
    Wp (fX8_taught_L99 0 (nI s) (nI g) x y (1, 0, w)) (lp I Q) := by
  have a0 := hc.O
  obtain ⟨c1, c2, c3⟩ := hc.a9
  unfold fX8_taught_L99
  refine it_w2 (fun i z v => v = w ∧ (z = 1 ∧ (∀ h, h < i → dn h = 0 ∨ (tlN k hb fm dn n h).1 = dn h) ∨ z = 0 ∧ ¬ ∀ h, h < i → dn h = 0 ∨ (tlN k hb fm dn n h).1 = dn h)) 12 (by decide) ⟨rfl, Or.inl ⟨rfl, fun h q => absurd q (Nat.not_lt_zero h)⟩⟩ (fun i z v hi hv => ?_) (fun z v hv => ?_)
  · obtain ⟨rfl, hv⟩ := hv
    obtain ⟨d1, d2⟩ := hd i hi
    obtain ⟨m1, m2⟩ := inb96 hg hi
    obtain ⟨l1, l2, l3⟩ := tl_le hC (fun h hh => (hd h hh).2) n i hi
    have e0 : wI v 9 (12 * g + i) = nI (tlN k hb fm dn n i).1 := by
      have := (hG.2 i hi).1
      rw [tlI_0] at this
      exact this
    have yes : (dn i = 0 ∨ (tlN k hb fm dn n i).1 = dn i) → (z = 1 ∧ (∀ h, h < i + 1 → dn h = 0 ∨ (tlN k hb fm dn n h).1 = dn h) ∨ z = 0 ∧ ¬ ∀ h, h < i + 1 → dn h = 0 ∨ (tlN k hb fm dn n h).1 = dn h) := by
      intro e
      rcases hv with ⟨z1, z2⟩ | ⟨z1, z2⟩
      · refine Or.inl ⟨z1, fun h hh => ?_⟩
        by_cases r : h = i
        · rw [r]; exact e
        · exact z2 h (by omega)
      · exact Or.inr ⟨z1, fun r => z2 (fun h hh => r h (by omega))⟩
    unfold fX8_taught_L99_body
    simp only [leL12 (show i < 2147483648 by omega), if_neg (Nat.not_le.mpr hi), chk_t a0, X8_told hc h8 ht (show i < m by omega), ob_s, d1, eqL0 (show dn i < 2147483648 by omega), c1, chk_t c2, c3, tw_mul_nI, nI_add, chk_t m1, m2, e0, nI_eq_iff (show dn i < 2147483648 by omega) (show (tlN k hb fm dn n i).1 < 2147483648 by omega), fX8_taught_b141]
    by_cases e1 : dn i = 0
    · simp only [if_pos e1, Wp_l]
      exact ⟨nI_1 i, trivial, yes (Or.inl e1)⟩
    · simp only [if_neg e1]
      by_cases e2 : dn i = (tlN k hb fm dn n i).1
      · simp only [if_pos e2, Wp_l]
        exact ⟨nI_1 i, trivial, yes (Or.inr e2.symm)⟩
      · simp only [if_neg e2, Wp_l]
        refine ⟨nI_1 i, trivial, Or.inr ⟨trivial, fun q => ?_⟩⟩
        rcases q i (Nat.lt_succ_self i) with r | r
        · exact e1 r
        · exact e2 r.symm
  · obtain ⟨rfl, hv⟩ := hv
    unfold fX8_taught_L99_body
    rw [if_pos (show (12 : Int32) ≤ nI 12 by decide)]
    refine Wp_wr ?_
    rcases hv with ⟨z1, z2⟩ | ⟨z1, z2⟩
    · have z1 : z = 1 := z1
      have e : tauB k hb fm dn n = true := tauB_t z2
      rw [e] at hP
      simp only [z1, if_neg n10, fX8_taught_b156]
      exact X8_taughtD hc h8 ht h12 hd hC hg hG _ _ (fun u h1 h2 => hP u h1 h2)
    · have z1 : z = 0 := z1
      have e : tauB k hb fm dn n = false := tauB_f z2
      rw [e] at hP
      simp only [z1, if_true, fX8_taught_b156]
      exact X8_taughtD hc h8 ht h12 hd hC hg hG _ _ (fun u h1 h2 => hP u h1 h2)
theorem X8_taughtL {w : Wd} {C : Cl} (hc : ShM w) (hx : IsM w C) (hI : CI C) {s m g : Nat} {d : Nat → Int32} {dn : Nat → Nat} (h8 : s < 8) (ht : TM w s m d) (h12 : 12 ≤ m) (hd : ∀ h, h < 12 → d h = nI (dn h) ∧ dn h ≤ 9) (hg : g < cG C) :
    Wp (fX8_taught_L33 0 (nI s) (nI g) (0, w)) (fun q => q.1 = tauR (cKd C g) (cHb C g) (cFm C g) dn ∧ Fr cMx w q.2 ∧ IsM q.2 C) := by
  have hG8 : cG C ≤ 8 := hI.1.2
  have hC := hI.g hg
  unfold fX8_taught_L33
  refine it_w1 (fun i v => v = w) 12 (by decide) rfl (fun i v hi hv => ?_) (fun v hv => ?_)
  · subst hv
    obtain ⟨d1, d2⟩ := hd i hi
    have e : isN (nI (dn i)) 10 := isN_nI (by omega) (by omega)
    unfold fX8_taught_L33_body
    simp only [leL12 (show i < 2147483648 by omega), if_neg (Nat.not_le.mpr hi), chk_t hc.O, X8_told hc h8 ht (show i < m by omega), ob_s, d1, X8_isDigit, bI_t e, if_neg n10, Wp_l]
    exact ⟨nI_1 i, trivial⟩
  · subst hv
    obtain ⟨e1, e2, e3⟩ := hc.a15
    unfold fX8_taught_L33_body
    rw [if_pos (show (12 : Int32) ≤ nI 12 by decide)]
    refine Wp_wr ?_
    simp only [chk_t hc.O, e1, ob_s]
    refine Wp_c (X8_keep hc (by decide) e2 e3) (fun w1 h1 => ?_)
    have hs1 := h1.1.shm hc
    have hx1 := hx.fr h1.1 (fun a i q => by omega)
    have ht1 := ht.fr h1.1 (by omega)
    have hf1 : Fr cMx v w1 := h1.1.mono (fun a i q => by unfold cMx; omega)
    have h0 : IsU w1 g (cKd C g) (cAa C g) (cWr C g) (cHb C g) (cFm C g) dn 0 0 := (hx1.g hg).cg (fun h hh => by rw [tlI_0]; exact ⟨rfl, rfl⟩)
    have fin : ∀ (x : Int32) (u : Wd), Fr cM9 w1 u → x = tauR (cKd C g) (cHb C g) (cFm C g) dn → Wp (fX8_taught_b192 0 x u) (fun q => q.1 = tauR (cKd C g) (cHb C g) (cFm C g) dn ∧ Fr cMx v q.2 ∧ IsM q.2 C) := by
      intro x u hf hxx
      have hs := hf.shm hs1
      have a0 := hs.O
      obtain ⟨e1, -⟩ := hs.a15
      unfold fX8_taught_b192
      simp only [chk_t a0, e1, ob_s]
      refine Wp_c (X8_back hc hx hI h1.2 hs1 hf (fun i q => by unfold cM9 at q; omega)) (fun z hz => ?_)
      exact Wp_of rfl ⟨hxx, (hf1.trans (hf.mono (fun a i q => by unfold cM9 at q; unfold cMx; omega))).trans (hz.1.mono (fun a i q => cMx_m q)), hz.2⟩
    unfold fX8_taught_L80
    refine it_wp (fun i s => s.2.1 = nI i ∧ Fr cM9 w1 s.2.2 ∧ ((s.1 = -1 ∧ IsU s.2.2 g (cKd C g) (cAa C g) (cWr C g) (cHb C g) (cFm C g) dn i 0 ∧ ∀ j, j < i → tauB (cKd C g) (cHb C g) (cFm C g) dn j = false) ∨ (tauS (cKd C g) (cHb C g) (cFm C g) dn < 61 ∧ s.1 = nI (tauS (cKd C g) (cHb C g) (cFm C g) dn)))) 61 (by decide) (fun i t hi hv => ?_) (fun t hv => ?_) ⟨rfl, Fr.refl w1, Or.inl ⟨rfl, h0, fun j q => absurd q (Nat.not_lt_zero j)⟩⟩
    · obtain ⟨x, y, u⟩ := t
      obtain ⟨e, hf, hc2⟩ := hv
      have e : y = nI i := e
      subst e
      have hf : Fr cM9 w1 u := hf
      have hsu := hf.shm hs1
      have htu := ht1.fr hf (by unfold cM9; omega)
      unfold fX8_taught_L80_body
      simp only [leL61 (show i < 2147483648 by omega), if_neg (Nat.not_le.mpr hi)]
      rcases hc2 with ⟨r1, hu, r3⟩ | ⟨r1, r2⟩
      · have r1 : x = -1 := r1
        subst r1
        simp only [if_true]
        refine X8_taughtI hsu h8 htu h12 hd hC (by omega) hu _ _ (fun z h2 h3 => ⟨nI_1 i, hf.trans h2, ?_⟩)
        cases e : tauB (cKd C g) (cHb C g) (cFm C g) dn i with
        | true =>
          have : tauS (cKd C g) (cHb C g) (cFm C g) dn = i := fI_eq hi r3 e
          exact Or.inr ⟨by rw [this]; exact hi, by rw [this]; rfl⟩
        | false =>
          refine Or.inl ⟨rfl, h3, fun j hj => ?_⟩
          by_cases r : j = i
          · rw [r]; exact e
          · exact r3 j (by omega)
      · have r2 : x = nI (tauS (cKd C g) (cHb C g) (cFm C g) dn) := r2
        simp only [r2, if_neg (nI_m1 (show tauS (cKd C g) (cHb C g) (cFm C g) dn < 2147483648 by omega))]
        refine Wp_wr (fin _ u hf ?_)
        unfold tauR
        rw [if_pos r1]
    · obtain ⟨x, y, u⟩ := t
      obtain ⟨e, hf, hc2⟩ := hv
      have e : y = nI 61 := e
      subst e
      have hf : Fr cM9 w1 u := hf
      unfold fX8_taught_L80_body
      simp only [show (61 : Int32) ≤ nI 61 by decide, if_true]
      refine Wp_wr (fin _ u hf ?_)
      unfold tauR
      rcases hc2 with ⟨r1, -, r3⟩ | ⟨r1, r2⟩
      · have : tauS (cKd C g) (cHb C g) (cFm C g) dn = 61 := fI_all r3
        rw [this, if_neg (by decide)]
        exact r1
      · rw [if_pos r1]
        exact r2
theorem X8_taughtN {w : Wd} (hc : ShM w) {s m : Nat} {d : Nat → Int32} (h8 : s < 8) (ht : TM w s m d) (h12 : 12 ≤ m) (hd : alB (fun h => decide (isN (d h) 10)) 12 = false) (x : Int32) {Q : Int32 × Wd → Prop} (hQ : Wp (fX8_no10 0 (-6) w) Q) :
    Wp (fX8_taught_L33 0 (nI s) x (0, w)) Q := by
  unfold fX8_taught_L33
  refine it_w1 (fun i v => v = w ∧ ∀ h, h < i → decide (isN (d h) 10) = true) 12 (by decide) ⟨rfl, fun h q => absurd q (Nat.not_lt_zero h)⟩ (fun i v hi hv => ?_) (fun v hv => ?_)
  · obtain ⟨rfl, hv⟩ := hv
    unfold fX8_taught_L33_body
    simp only [leL12 (show i < 2147483648 by omega), if_neg (Nat.not_le.mpr hi), chk_t hc.O, X8_told hc h8 ht (show i < m by omega), ob_s, X8_isDigit]
    by_cases e : isN (d i) 10
    · simp only [bI_t e, if_neg n10, Wp_l]
      refine ⟨nI_1 i, trivial, fun h hh => ?_⟩
      by_cases r : h = i
      · rw [r]; exact decide_eq_true e
      · exact hv h (by omega)
    · simp only [bI_f e, if_true]
      refine Wp_wr (Wp_c hQ (fun q hq => Wp_of rfl hq))
  · obtain ⟨rfl, hv⟩ := hv
    rw [alB_t 12 hv] at hd
    cases hd
