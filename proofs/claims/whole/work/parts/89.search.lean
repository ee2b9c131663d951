/-! the search for the best way -/
theorem le2401 {t : Nat} (h : t < 2147483648) : ((2401 : Int32) ≤ nI t) = (2401 ≤ t) := nI_le_iff (a := 2401) (by decide) h
theorem c4 {α : Type} (k : Option α) : chk (¬ (0 : Int32) < 0 ∧ ¬ (0 : Int32) < 0 ∧ ¬ (4 : Int32) < 0 ∧ 0 + 4 ≤ 4 ∧ 0 + 4 ≤ 4) k = k := chk_t (by decide) k
theorem tN4 : (4 : Int32).toNatClampNeg = 4 := by decide
def cDr (a _ : Nat) : Prop := 128 ≤ a ∧ a ≤ 132
def BsX (v : Wd) (C : Cl) (d : Nat → Int32) (k t : Nat) : Prop := wI v 128 1 = wv (bwS C d k t).1 ∧ (0 < t → ∀ g, g < k → wI v 129 g = nI (dg (cP C + 1) k (bwS C d k t).2 g))
theorem ScX.fr {S : Nat → Nat → Prop} {v u : Wd} {C : Cl} {d : Nat → Int32} {k n : Nat} (h : ScX v C d k n) (hf : Fr S v u) (hS : ∀ i, ¬ S 132 i) : ScX u C d k n := fun p hp j hj => by rw [hf.at (hS _)]; exact h p hp j hj
theorem WyX.fr {S : Nat → Nat → Prop} {v u : Wd} {k : Nat} {W : Nat → Nat} (h : WyX v k W) (hf : Fr S v u) (hS : ∀ i, ¬ S 130 i) : WyX u k W := fun g hg => by rw [hf.at (hS _)]; exact h g hg
theorem X1_b79 {w v : Wd} {C : Cl} (hs : ShX w) (hx : IsX w 3 C) (hI : CI C) {d : Nat → Int32} {k t : Nat} (h0 : 0 < k) (hk : k < 5) (ht : t < (cP C + 1) ^ k) (hf : Fr cDr w v) (hsc : ScX v C d k (cP C)) (hw : WyX v k (dg (cP C + 1) k t)) (hb : BsX v C d k (t + 1)) {P : Wd → Prop} : Wp (fX1_search_b79 128 3 (nI k) (nI t) v) (lp (fun s => s.2.1 = nI (t + 1) ∧ Fr cDr w s.2.2 ∧ s.1 = (if t + 1 < (cP C + 1) ^ k then 1 else 0) ∧ ScX s.2.2 C d k (cP C) ∧ (t + 1 < (cP C + 1) ^ k → WyX s.2.2 k (dg (cP C + 1) k (t + 1))) ∧ BsX s.2.2 C d k (t + 1)) P) := by
  have hP : cP C ≤ 6 := hI.1.1
  have hsv := hf.shx hs
  have hcv := hsv.cl (b := 3) (Or.inl rfl)
  have hxv := hx.fr hI hf (fun a i q => by unfold cDr at q; omega)
  obtain ⟨a1, -⟩ := hcv.B
  obtain ⟨d1, d2, -⟩ := hsv.D
  unfold fX1_search_b79
  rw [chk_t a1, chk_t d2, hxv.1.1]
  refine Wp_c (X1_advance hsv (show cP C < 7 by omega) h0 hk ht hw) (fun q hq => ?_)
  obtain ⟨q1, q2, q3⟩ := hq
  rw [Wp_l]
  refine ⟨nI_1 t, hf.trans (q2.mono (fun a i r => by unfold cDr; omega)), q1, hsc.fr q2 (fun i r => by omega), q3, ?_, fun r g hg => ?_⟩
  · rw [q2.at (by omega)]; exact hb.1
  · rw [q2.at (by omega)]; exact hb.2 r g hg
theorem X1_search {w : Wd} {C : Cl} (hs : ShX w) (hx : IsX w 3 C) (hI : CI C) {s l k : Nat} {d : Nat → Int32} (h8 : s < 8) (ht : TX w s l d) (hl : 12 * cP C ≤ l) (h0 : 0 < k) (hk : k < 5) (hkG : k ≤ cG C) : Wp (fX1_search 128 3 (135 + 2 * s) (nI k) w) (fun v => Fr cDr w v ∧ wI v 128 1 = wv (bwS C d k ((cP C + 1) ^ k)).1 ∧ ∀ g, g < k → wI v 129 g = nI (dg (cP C + 1) k (bwS C d k ((cP C + 1) ^ k)).2 g)) := by
  have hP : cP C ≤ 6 := hI.1.1
  have hN := pw_le (show cP C < 7 by omega) hk
  have hN0 : 0 < (cP C + 1) ^ k := Nat.pow_pos (by omega)
  obtain ⟨d1, d2, -⟩ := hs.D
  unfold fX1_search
  rw [chk_t d2]
  refine Wp_c (X1_scoreLoads hs hx hI h8 ht hl hk) (fun w1 h1 => ?_)
  have hs1 := h1.1.shx hs
  obtain ⟨d1, d2, d3, ⟨e1, e2, e3⟩, d5⟩ := hs1.D
  rw [chk_t d2, e1, ob_s]
  refine Wp_c (J7_fill (n := 4) e2 e3 (by decide) 0) (fun w2 h2 => ?_)
  have hs2 := h2.1.shx hs1
  obtain ⟨d1, d2, -⟩ := hs2.D
  rw [chk_t d2, bnd_e]
  have hf3 : Fr cDr w (sI w2 128 1 (-1)) := ((h1.1.mono (fun a i q => by unfold cDr; omega)).trans (h2.1.mono (fun a i q => by unfold cDr; omega))).sI _ ⟨by omega, by omega⟩
  have f23 : Fr (fun a _ => a = 128) w2 (sI w2 128 1 (-1)) := Fr_sI _ rfl
  have hsc3 : ScX (sI w2 128 1 (-1)) C d k (cP C) := (h1.2.fr h2.1 (fun i q => by omega)).fr f23 (fun i q => by omega)
  have hw3 : WyX (sI w2 128 1 (-1)) k (dg (cP C + 1) k 0) := fun g hg => by
    rw [wI_n (by omega), h2.2 g (by omega)]
    unfold dg
    rw [Nat.zero_div, Nat.zero_mod]
    rfl
  unfold fX1_search_L26
  refine it_wp (fun t s => s.2.1 = nI t ∧ Fr cDr w s.2.2 ∧ s.1 = (if t < (cP C + 1) ^ k then 1 else 0) ∧ ScX s.2.2 C d k (cP C) ∧ (t < (cP C + 1) ^ k → WyX s.2.2 k (dg (cP C + 1) k t)) ∧ BsX s.2.2 C d k t) ((cP C + 1) ^ k) (by omega) (fun t u htN hu => ?_) (fun u hu => ?_) ⟨rfl, hf3, by rw [if_pos hN0], hsc3, fun _ => hw3, wI_e _ _ _ _, fun q => absurd q (Nat.lt_irrefl 0)⟩
  · obtain ⟨x, y, v⟩ := u
    obtain ⟨e, hf, ex, hsc, hw, hb⟩ := hu
    have e : y = nI t := e
    have ex1 : x = 1 := (show x = (if t < (cP C + 1) ^ k then 1 else 0) from ex).trans (if_pos htN)
    subst e
    subst ex1
    have hf : Fr cDr w v := hf
    have hsc : ScX v C d k (cP C) := hsc
    have hw : WyX v k (dg (cP C + 1) k t) := hw htN
    have hb : BsX v C d k t := hb
    have hsv := hf.shx hs
    have hcv := hsv.cl (b := 3) (Or.inl rfl)
    have hxv := hx.fr hI hf (fun a i q => by unfold cDr at q; omega)
    obtain ⟨a1, -⟩ := hcv.B
    obtain ⟨d1, d2, ⟨f1, f2, f3⟩, ⟨e1, e2, e3⟩, d5⟩ := hsv.D
    have hT := drT_le C d k (dg (cP C + 1) k t) hP
    have hM := bwS_le C d k hP t
    unfold fX1_search_L26_body
    dsimp only
    rw [if_neg (by rw [le2401 (by omega)]; omega), if_neg n10, chk_t a1, chk_t d2, hxv.1.1]
    refine Wp_c (X1_scoreWay hsv hI hk hkG (fun g hg => dg_lt) hsc hw) (fun q hq => ?_)
    obtain ⟨q1, q2⟩ := hq
    have hsq := q2.shx hsv
    obtain ⟨d1, d2', ⟨f1, f2, f3⟩, ⟨e1, e2, e3⟩, d5⟩ := hsq.D
    have e128 : wI q.2 128 1 = wv (bwS C d k t).1 := by rw [q2.at (by omega)]; exact hb.1
    have hfq : Fr cDr w q.2 := hf.trans (q2.mono (fun a i r => by unfold cDr; omega))
    rw [chk_t d2', q1, e128]
    simp only [wv_le (show (bwS C d k t).1 < 1000 by omega) (show drT C d k (dg (cP C + 1) k t) < 1000 by omega)]
    by_cases e : (bwS C d k t).1 < drT C d k (dg (cP C + 1) k t) + 1
    · rw [if_neg (not_not_intro e), bnd_e]
      have hb1 : bwS C d k (t + 1) = (drT C d k (dg (cP C + 1) k t) + 1, t) := by rw [bwS_s, if_pos e]
      simp only [cO_s, chk_t d2', wR_sI, e1, f1, ob_s, cA_s, chk_t e2, chk_t f2, wn_sI, e3, f3, tN0, tN4, c4, bnd_e]
      have hfn : Fr cDr w (cpI (sI q.2 128 1 (nI (drT C d k (dg (cP C + 1) k t)))) 130 129 0 0 4) := (hfq.sI _ ⟨by omega, by omega⟩).cp (fun i => ⟨by omega, by omega⟩)
      have f5 : Fr (fun a _ => a = 128 ∨ a = 129) q.2 (cpI (sI q.2 128 1 (nI (drT C d k (dg (cP C + 1) k t)))) 130 129 0 0 4) := ((Fr.refl q.2).sI (a := 128) (i := 1) _ (Or.inl rfl)).cp (fun i => Or.inr rfl)
      refine X1_b79 hs hx hI h0 hk htN hfn ((hsc.fr q2 (fun i r => by omega)).fr f5 (fun i r => by omega)) ((hw.fr q2 (fun i r => by omega)).fr f5 (fun i r => by omega)) ⟨?_, fun _ g hg => ?_⟩
      · rw [wI_cn (by decide), wI_e, hb1]
        exact (wv_s _).symm
      · rw [wI_ce (show g < 4 by omega), wI_n (by omega), q2.at (by omega), hw g hg, hb1]
    · rw [if_pos e]
      have hb1 : bwS C d k (t + 1) = bwS C d k t := by rw [bwS_s, if_neg e]
      refine X1_b79 hs hx hI h0 hk htN hfq (hsc.fr q2 (fun i r => by omega)) (hw.fr q2 (fun i r => by omega)) ⟨by rw [hb1]; exact e128, fun _ g hg => ?_⟩
      have ht0 : 0 < t := by
        rcases Nat.eq_zero_or_pos t with r | r
        · subst r
          exact absurd (Nat.succ_pos _) e
        · exact r
      rw [q2.at (by omega), hb1]
      exact hb.2 ht0 g hg
  · obtain ⟨x, y, v⟩ := u
    obtain ⟨e, hf, ex, hsc, hw, hb⟩ := hu
    have e : y = nI ((cP C + 1) ^ k) := e
    have ex1 : x = 0 := (show x = (if (cP C + 1) ^ k < (cP C + 1) ^ k then 1 else 0) from ex).trans (if_neg (Nat.lt_irrefl _))
    subst e
    subst ex1
    have hb : BsX v C d k ((cP C + 1) ^ k) := hb
    unfold fX1_search_L26_body fX1_search_b96
    dsimp only
    by_cases r : 2401 ≤ (cP C + 1) ^ k
    · rw [if_pos (by rw [le2401 (by omega)]; exact r)]
      exact Wp_wr (Wp_of rfl ⟨hf, hb.1, hb.2 hN0⟩)
    · rw [if_neg (by rw [le2401 (by omega)]; exact r), if_pos rfl]
      exact Wp_wr (Wp_of rfl ⟨hf, hb.1, hb.2 hN0⟩)
/-! in the model -/
def doT (D : Cl) (d : Nat → Int32) : Nat := sumN (fun p => cntN (fun h => decide (d (12 * p + h) = nI (doesS D p h))) 12) (cP D)
theorem X8_doneP {w : Wd} {D : Cl} (hc : ShM w) (hx : IsM w D) (hI : CI D) {s l p : Nat} {d : Nat → Int32} (h8 : s < 8) (ht : TM w s l d) (hl : 12 * cP D ≤ l) (hp : p < cP D) (n : Nat) {P : Int32 × Wd → Prop} {I : Int32 × Int32 × Wd → Prop} (hP : I (nI (n + cntN (fun h => decide (d (12 * p + h) = nI (doesS D p h))) 12), nI (p + 1), w)) : Wp (fX8_doneOf_L15 0 (nI s) (nI p) (nI n, 0, w)) (lp I P) := by
  have hP6 : cP D ≤ 6 := hI.1.1
  unfold fX8_doneOf_L15
  refine it_w2 (fun i x v => v = w ∧ x = nI (n + cntN (fun h => decide (d (12 * p + h) = nI (doesS D p h))) i)) 12 (by decide) ⟨rfl, rfl⟩ (fun i x v hi hv => ?_) (fun x v hv => ?_)
  · obtain ⟨rfl, rfl⟩ := hv
    have hdl := does_le hI hp hi
    unfold fX8_doneOf_L15_body
    simp only [leL12 (show i < 2147483648 by omega), if_neg (Nat.not_le.mpr hi), chk_t hc.O, tw_mul_nI, nI_add, X8_told hc h8 ht (show 12 * p + i < l by omega), ob_s, X8_doesNow hc hx hI hp hi, fX8_doneOf_b63]
    by_cases e1 : d (12 * p + i) = -1
    · have e2 : ¬ d (12 * p + i) = nI (doesS D p i) := by
        rw [e1]
        intro q
        exact nI_m1 (show doesS D p i < 2147483648 by omega) q.symm
      simp only [if_pos e1, Wp_l]
      refine ⟨nI_1 i, trivial, ?_⟩
      rw [cntN_s, if_neg (by rw [decide_eq_false e2]; decide)]
      rfl
    · simp only [if_neg e1]
      by_cases e2 : d (12 * p + i) = nI (doesS D p i)
      · simp only [if_pos e2, Wp_l]
        refine ⟨nI_1 i, trivial, ?_⟩
        rw [cntN_s, if_pos (decide_eq_true e2)]
        exact nI_1 _
      · simp only [if_neg e2, Wp_l]
        refine ⟨nI_1 i, trivial, ?_⟩
        rw [cntN_s, if_neg (by rw [decide_eq_false e2]; decide)]
        rfl
  · obtain ⟨rfl, rfl⟩ := hv
    unfold fX8_doneOf_L15_body
    rw [if_pos (show (12 : Int32) ≤ nI 12 by decide)]
    refine Wp_wr ?_
    rw [Wp_l, nI_1]
    exact hP
theorem X8_doneOf {w : Wd} {D : Cl} (hc : ShM w) (hx : IsM w D) (hI : CI D) {s l : Nat} {d : Nat → Int32} (h8 : s < 8) (ht : TM w s l d) (hl : 12 * cP D ≤ l) : fX8_doneOf 0 (nI s) w = some (nI (doT D d), w) := by
  have hP6 : cP D ≤ 6 := hI.1.1
  refine Wp_eq ?_
  unfold fX8_doneOf fX8_doneOf_L4
  refine it_w2 (fun p x v => v = w ∧ x = nI (sumN (fun p => cntN (fun h => decide (d (12 * p + h) = nI (doesS D p h))) 12) p)) (cP D) (by omega) ⟨rfl, rfl⟩ (fun p x v hp hv => ?_) (fun x v hv => ?_)
  · obtain ⟨rfl, rfl⟩ := hv
    unfold fX8_doneOf_L4_body
    rw [chk_t hc.O, hx.1.1, if_neg (by rw [nI_le_iff (show cP D < 2147483648 by omega) (show p < 2147483648 by omega)]; omega)]
    exact X8_doneP hc hx hI h8 ht hl hp _ ⟨rfl, rfl, rfl⟩
  · obtain ⟨rfl, rfl⟩ := hv
    unfold fX8_doneOf_L4_body
    simp only [chk_t hc.O, hx.1.1, Int32.le_refl, if_true]
    exact Wp_wr (Wp_of rfl ⟨rfl, rfl⟩)
theorem IsM.dr {w v : Wd} {C : Cl} (hx : IsM w C) (k : Nat) (W : Nat → Nat) (hf : Fr (fun a i => (a = 8 ∧ i < k) ∨ a = 17) w v) (hv : ∀ g, g < k → wI v 8 g = wv (W g)) : IsM v (drC C k W) := by
  refine ⟨⟨?_, ?_, ?_, ?_⟩, fun q hq => ?_, fun j hj => ?_⟩
  · rw [hf.at (by omega)]; exact hx.1.1
  · rw [hf.at (by omega)]; exact hx.1.2.1
  · rw [hf.at (by omega)]; exact hx.1.2.2.1
  · rw [hf.at (by omega)]; exact hx.1.2.2.2
  · obtain ⟨h1, h2⟩ := hx.2.1 q hq
    refine ⟨?_, fun i hi => ?_⟩
    · rw [hf.at (by omega)]; exact h1
    · rw [hf.at (by omega)]; exact h2 i hi
  · obtain ⟨⟨h1, h2, h3⟩, h4⟩ := hx.2.2 j hj
    refine ⟨⟨?_, ?_, ?_⟩, fun i hi => ⟨?_, ?_⟩⟩
    · rw [hf.at (by omega)]; exact h1
    · rw [hf.at (by omega)]; exact h2
    · show wI v 8 j = wv (if j < k then W j else cWr C j)
      by_cases e : j < k
      · rw [if_pos e]; exact hv j e
      · rw [if_neg e, hf.at (by omega)]; exact h3
    · rw [hf.at (by omega)]; exact (h4 i hi).1
    · rw [hf.at (by omega)]; exact (h4 i hi).2
theorem wv_1 (n : Nat) : wv n + 1 = nI n := Int32.sub_add_cancel _ _
theorem X8_bestL {w : Wd} (hs : ShM w) {k t s : Nat} {B : Nat} (hk : k < 5) (x3 x5 x6 : Int32) (hw : ∀ g, g < k → wI w 8 g = wv (dg B k t g)) {P : Int32 × Wd → Prop} {I : Int32 × Int32 × Wd → Prop} (hP : ∀ v, Fr (fun a _ => a = 17) w v → (∀ g, g < k → wI v 17 g = nI (dg B k t g)) → I (x6, nI (t + 1), v)) : Wp (fX8_dressed_L207 0 (nI s) (nI k) x3 x5 x6 (nI t) (0, w)) (lp I P) := by
  unfold fX8_dressed_L207
  refine it_w1 (fun i v => Fr (fun a _ => a = 17) w v ∧ ∀ g, g < i → wI v 17 g = nI (dg B k t g)) k (by omega) ⟨Fr.refl w, fun g q => absurd q (Nat.not_lt_zero g)⟩ (fun i v hi hv => ?_) (fun v hv => ?_)
  · obtain ⟨hf, hv⟩ := hv
    have hsv := hf.shm hs
    obtain ⟨c1, c2, c3⟩ := hsv.a8
    obtain ⟨e1, e2, e3⟩ := hsv.a17
    obtain ⟨b1, b2⟩ := inb8 (show i < 8 by omega)
    have b4 : inb (nI i) 4 := inb_nI (by omega) (by decide)
    have ew : wI v 8 i = wv (dg B k t i) := by rw [hf.at (by omega)]; exact hw i hi
    unfold fX8_dressed_L207_body
    simp only [nI_le_iff (show k < 2147483648 by omega) (show i < 2147483648 by omega), if_neg (Nat.not_le.mpr hi), chk_t hsv.O, e1, c1, ob_s, chk_t c2, c3, chk_t b1, b2, chk_t e2, e3, chk_t b4, ew, wv_1, bnd_e, Wp_l]
    refine ⟨nI_1 i, hf.sI _ rfl, fun g hg => ?_⟩
    by_cases e : g = i
    · subst e
      exact wI_e _ _ _ _
    · rw [wI_n (by omega)]
      exact hv g (by omega)
  · obtain ⟨hf, hv⟩ := hv
    unfold fX8_dressed_L207_body fX8_dressed_b235
    simp only [Int32.le_refl, if_true]
    refine Wp_wr ?_
    rw [Wp_l, nI_1]
    exact hP v hf hv
theorem dg_i {B k t i : Nat} (hi : i < k) : dg B k t (k - 1 - i) = t / B ^ i % B := by
  unfold dg
  rw [show k - 1 - (k - 1 - i) = i by omega]
theorem X8_wayL {w v0 : Wd} {C : Cl} (hs : ShM w) (hx : IsM w C) (hI : CI C) {s l k t : Nat} {d : Nat → Int32} (h8 : s < 8) (ht : TM w s l d) (hl : 12 * cP C ≤ l) (hk : k < 5) (hkG : k ≤ cG C) (htN : t < (cP C + 1) ^ k) (hf0 : Fr (fun a i => (a = 8 ∧ i < k) ∨ a = 17) w v0) (hb0 : 0 < t → ∀ g, g < k → wI v0 17 g = nI (dg (cP C + 1) k (bwS C d k t).2 g)) (x3 x5 : Int32) {P : Int32 × Wd → Prop} : Wp (fX8_dressed_L143 0 (nI s) (nI k) x3 x5 (wv (bwS C d k t).1) (nI t) (nI t, wv k, v0)) (lp (fun q => q.2.1 = nI (t + 1) ∧ q.1 = wv (bwS C d k (t + 1)).1 ∧ Fr (fun a i => (a = 8 ∧ i < k) ∨ a = 17) w q.2.2 ∧ (∀ g, g < k → wI q.2.2 17 g = nI (dg (cP C + 1) k (bwS C d k (t + 1)).2 g))) P) := by
  have hP : cP C ≤ 6 := hI.1.1
  have hG : cG C ≤ 8 := hI.1.2
  have hN := pw_le (show cP C < 7 by omega) hk
  have hT := drT_le C d k (dg (cP C + 1) k t) hP
  have hM := bwS_le C d k hP t
  unfold fX8_dressed_L143
  refine it_wp (fun i u => u.1 = nI (t / (cP C + 1) ^ i) ∧ u.2.1 = wv (k - i) ∧ Fr (fun a i => a = 8 ∧ i < k) v0 u.2.2 ∧ ∀ g, k - i ≤ g → g < k → wI u.2.2 8 g = wv (dg (cP C + 1) k t g)) k (by omega) (fun i u hi hu => ?_) (fun u hu => ?_) ⟨by rw [Nat.pow_zero, Nat.div_one], rfl, Fr.refl v0, fun g h1 h2 => by omega⟩
  · obtain ⟨x, y, v⟩ := u
    obtain ⟨ex, ey, hf, hv⟩ := hu
    have ex1 : x = nI (t / (cP C + 1) ^ i) := ex
    have ey1 : y = wv (k - i) := ey
    rw [show k - i = (k - 1 - i) + 1 by omega, wv_s] at ey1
    subst ex1
    subst ey1
    have hf : Fr (fun a i => a = 8 ∧ i < k) v0 v := hf
    have hv : ∀ g, k - i ≤ g → g < k → wI v 8 g = wv (dg (cP C + 1) k t g) := hv
    have hsv := hf.shm (hf0.shm hs)
    obtain ⟨c1, c2, c3⟩ := hsv.a8
    obtain ⟨b1, b2⟩ := inb8 (show k - 1 - i < 8 by omega)
    have e3 : wI v 0 3 = nI (cP C) := by rw [hf.at (by omega), hf0.at (by omega)]; exact hx.1.1
    have hz : ¬ nI (cP C + 1) = 0 := by
      rw [eqL0 (by omega)]
      omega
    have hq : t / (cP C + 1) ^ i ≤ t := Nat.div_le_self _ _
    have hrem : nI (t / (cP C + 1) ^ i) - nI (t / (cP C + 1) ^ i) / nI (cP C + 1) * nI (cP C + 1) - 1 = wv (dg (cP C + 1) k t (k - 1 - i)) := by
      rw [pk_rem (by omega) (by omega) (by omega), dg_i hi]
      rfl
    have e3' : ∀ z, wI (sI v 8 (k - 1 - i) z) 0 3 = nI (cP C) := fun z => by rw [wI_n (by omega)]; exact e3
    unfold fX8_dressed_L143_body
    simp only [if_neg (nI_pos (show k - 1 - i < 2147483648 by omega)), chk_t hsv.O, c1, ob_s, e3, nI_1, chk_t hz, chk_t c2, c3, chk_t b1, b2, hrem, bnd_e, cO_s, e3', Wp_l]
    refine ⟨?_, ?_, hf.sI _ ⟨rfl, by omega⟩, fun g h1 h2 => ?_⟩
    · rw [pk_div (by omega) (by omega) (by omega), Nat.div_div_eq_div_mul, Nat.pow_succ]
    · rw [show k - (i + 1) = k - 1 - i by omega]
      unfold wv
      rw [Int32.sub_eq_add_neg]
    · by_cases e : g = k - 1 - i
      · rw [e]
        exact wI_e _ _ _ _
      · rw [wI_n (by omega)]
        exact hv g (by omega) h2
  · obtain ⟨x, y, v⟩ := u
    obtain ⟨ex, ey, hf, hv⟩ := hu
    have ey1 : y = wv (k - k) := ey
    rw [Nat.sub_self, wv_0] at ey1
    subst ey1
    have hf : Fr (fun a i => a = 8 ∧ i < k) v0 v := hf
    have hv : ∀ g, k - k ≤ g → g < k → wI v 8 g = wv (dg (cP C + 1) k t g) := hv
    have hfw : Fr (fun a i => (a = 8 ∧ i < k) ∨ a = 17) w v := hf0.trans (hf.mono (fun a i q => Or.inl q))
    have hsv := hfw.shm hs
    have hxv := hx.dr k (dg (cP C + 1) k t) hfw (fun g hg => hv g (by omega) hg)
    have hID := CI_drC hI k (W := dg (cP C + 1) k t) (fun g hg => dg_lt)
    have htv := ht.fr hfw (by omega)
    have hdo := X8_doneOf hsv hxv hID h8 htv hl
    have hdo : fX8_doneOf 0 (nI s) v = some (nI (drT C d k (dg (cP C + 1) k t)), v) := hdo
    unfold fX8_dressed_L143_body
    dsimp only
    rw [if_pos (show (-1 : Int32) < 0 by decide), chk_t hsv.O, hdo, ob_s]
    dsimp only
    refine Wp_wr ?_
    by_cases e : (bwS C d k t).1 < drT C d k (dg (cP C + 1) k t) + 1
    · have hb1 : bwS C d k (t + 1) = (drT C d k (dg (cP C + 1) k t) + 1, t) := by rw [bwS_s, if_pos e]
      rw [if_pos (by rw [wv_lt (by omega) (by omega)]; exact e)]
      refine X8_bestL hsv hk _ _ _ (fun g hg => hv g (by omega) hg) (fun u h1 h2 => ⟨rfl, ?_, hfw.trans (h1.mono (fun a i q => Or.inr q)), fun g hg => ?_⟩)
      · rw [hb1]
        exact (wv_s _).symm
      · rw [hb1]
        exact h2 g hg
    · have hb1 : bwS C d k (t + 1) = bwS C d k t := by rw [bwS_s, if_neg e]
      have ht0 : 0 < t := by
        rcases Nat.eq_zero_or_pos t with r | r
        · subst r
          exact absurd (Nat.succ_pos _) e
        · exact r
      rw [if_neg (by rw [wv_lt (by omega) (by omega)]; exact e)]
      unfold fX8_dressed_b235
      rw [Wp_l]
      refine ⟨nI_1 t, by rw [hb1], hfw, fun g hg => ?_⟩
      show wI v 17 g = _
      rw [hf.at (by omega), hb1]
      exact hb0 ht0 g hg
def drR (C : Cl) (d : Nat → Int32) (k : Nat) (i : Int32) : Int32 := if i = -1 then wv (bwS C d k ((cP C + 1) ^ k)).1 else nI (dg (cP C + 1) k (bwS C d k ((cP C + 1) ^ k)).2 i.toNatClampNeg)
theorem X8_dressedL {w : Wd} {C : Cl} (hs : ShM w) (hx : IsM w C) (hI : CI C) {s l k : Nat} {d : Nat → Int32} (h8 : s < 8) (ht : TM w s l d) (hl : 12 * cP C ≤ l) (h0 : 0 < k) (hk : k < 5) (hkG : k ≤ cG C) {x3 : Int32} (h3 : x3 = -1 ∨ ∃ j, j < k ∧ x3 = nI j) : Wp (fX8_dressed_L90 0 (nI s) (nI k) x3 (1, 0, w)) (fun q => q.1 = drR C d k x3 ∧ Fr cMx w q.2 ∧ IsM q.2 C) := by
  have hP : cP C ≤ 6 := hI.1.1
  have hN0 : 0 < (cP C + 1) ^ k := Nat.pow_pos (by omega)
  have hN := pw_le (show cP C < 7 by omega) hk
  obtain ⟨k1, k2, k3⟩ := hs.a15
  unfold fX8_dressed_L90
  refine it_w2 (fun i x v => v = w ∧ x = nI ((cP C + 1) ^ i)) k (by omega) ⟨rfl, by rw [Nat.pow_zero]; rfl⟩ (fun i x v hi hv => ?_) (fun x v hv => ?_)
  · obtain ⟨rfl, rfl⟩ := hv
    unfold fX8_dressed_L90_body
    simp only [nI_le_iff (show k < 2147483648 by omega) (show i < 2147483648 by omega), if_neg (Nat.not_le.mpr hi), chk_t hs.O, hx.1.1, nI_1, pk_mul, bnd_e, Wp_l]
    exact ⟨trivial, trivial, congrArg nI (Nat.pow_succ _ _).symm⟩
  · obtain ⟨rfl, rfl⟩ := hv
    unfold fX8_dressed_L90_body
    dsimp only
    rw [if_pos (Int32.le_refl _), chk_t hs.O, k1, ob_s]
    refine Wp_wr (Wp_c (X8_keep hs (by decide) k2 k3) (fun w1 h1 => ?_))
    have hs1 := h1.1.shm hs
    have hx1 := hx.fr h1.1 (fun a i q => by omega)
    have ht1 := ht.fr h1.1 (by omega)
    have hf1 : Fr cMx v w1 := h1.1.mono (fun a i q => by unfold cMx; omega)
    unfold fX8_dressed_L127
    refine it_wp (fun t u => u.2.1 = nI t ∧ u.1 = wv (bwS C d k t).1 ∧ Fr (fun a i => (a = 8 ∧ i < k) ∨ a = 17) w1 u.2.2 ∧ (0 < t → ∀ g, g < k → wI u.2.2 17 g = nI (dg (cP C + 1) k (bwS C d k t).2 g))) ((cP C + 1) ^ k) (by omega) (fun t u htN hu => ?_) (fun u hu => ?_) ⟨rfl, rfl, Fr.refl w1, fun q => absurd q (Nat.lt_irrefl 0)⟩
    · obtain ⟨x, y, z⟩ := u
      obtain ⟨ey, ex, hf, hb⟩ := hu
      have ey1 : y = nI t := ey
      have ex1 : x = wv (bwS C d k t).1 := ex
      subst ey1
      subst ex1
      unfold fX8_dressed_L127_body
      dsimp only
      rw [if_neg (by rw [nI_le_iff (by omega) (by omega)]; omega), bnd_e, show nI k - 1 = wv k from rfl]
      refine Wp_m (X8_wayL hs1 hx1 hI h8 ht1 hl hk hkG htN hf hb x3 (nI ((cP C + 1) ^ k)) (P := fun q => q.1 = drR C d k x3 ∧ Fr cMx v q.2 ∧ IsM q.2 C)) (fun r hr => ?_)
      cases r with
      | inl q => exact ⟨hr.1, hr.2.1, hr.2.2.1, fun _ => hr.2.2.2⟩
      | inr q => exact hr
    · obtain ⟨x, y, z⟩ := u
      obtain ⟨ey, ex, hf, hb⟩ := hu
      have ey1 : y = nI ((cP C + 1) ^ k) := ey
      have ex1 : x = wv (bwS C d k ((cP C + 1) ^ k)).1 := ex
      subst ey1
      subst ex1
      have hf : Fr (fun a i => (a = 8 ∧ i < k) ∨ a = 17) w1 z := hf
      have hb := hb hN0
      have hsz := hf.shm hs1
      obtain ⟨j1, -⟩ := hsz.a15
      unfold fX8_dressed_L127_body fX8_dressed_b265
      dsimp only
      rw [if_pos (Int32.le_refl _), chk_t hsz.O, j1, ob_s]
      refine Wp_wr (Wp_c (X8_back hs hx hI h1.2 hs1 hf (fun i q => by omega)) (fun u hu => ?_))
      have hfin : Fr cMx v u := (hf1.trans (hf.mono (fun a i q => by unfold cMx; omega))).trans (hu.1.mono (fun a i q => cMx_m q))
      have hsu := hfin.shm hs
      unfold drR
      by_cases e : x3 = -1
      · rw [if_pos e, if_pos e]
        exact Wp_of rfl ⟨rfl, hfin, hu.2⟩
      · rw [if_neg e, if_neg e]
        obtain ⟨j, hj, rfl⟩ : ∃ j, j < k ∧ x3 = nI j := h3.resolve_left e
        obtain ⟨c1, c2, c3⟩ := hsu.a17
        have b4 : inb (nI j) 4 := inb_nI (by omega) (by decide)
        have eb : wI u 17 j = nI (dg (cP C + 1) k (bwS C d k ((cP C + 1) ^ k)).2 j) := by
          rw [hu.1.at (by unfold cM; omega)]
          exact hb j hj
        simp only [chk_t hsu.O, c1, ob_s, chk_t c2, c3, chk_t b4, nI_clamp (show j < 2 ^ 31 by omega), eb]
        exact Wp_of rfl ⟨rfl, hfin, hu.2⟩
theorem rgM {v : Int32} {k : Nat} (hk : k < 5) (h : (-1 : Int32) ≤ v ∧ v ≤ nI k - 1) : v = -1 ∨ ∃ j, j < k ∧ v = nI j := by
  by_cases v0 : v < 0
  · left
    have h1 := Int32.le_iff_toInt_le.mp h.1
    have h2 := Int32.lt_iff_toInt_lt.mp v0
    rw [show (-1 : Int32).toInt = -1 by decide] at h1
    rw [show (0 : Int32).toInt = 0 by decide] at h2
    apply Int32.toInt_inj.mp
    rw [show (-1 : Int32).toInt = -1 by decide]
    omega
  · right
    have := (rngN (x := v) (n := k) (by omega)).mp ⟨(le0 v).mpr v0, h.2⟩
    obtain ⟨j, hj, e⟩ := isN_ex this
    exact ⟨j, hj, e⟩
theorem C_dressed {C : Cl} {x m : Wd} (h : RelC C x m) (v k i : Int32) : E2 (fX7_dressed 0 v k i x) (fX8_dressed 0 v k i m) := by
  obtain ⟨⟨hs, hm, hI, hx, hxm⟩, -⟩ := id h
  have hP : cP C ≤ 6 := hI.1.1
  have hG : cG C ≤ 8 := hI.1.2
  have hc := hs.cl (b := 3) (Or.inl rfl)
  obtain ⟨a1, a2, a3, a4, a5, a6, a7, a8, a9, a10⟩ := hc.B
  obtain ⟨t1, t2, t3, t4, t5, t6, t7, t8, t9⟩ := hs.T
  have a0 := hm.O
  have gG := X0_hasGarment hc (n := cG C) hx.1.2.1 (by omega)
  have gP := X0_hasPerson hc (n := cP C) hx.1.1 (by omega)
  have mG := X8_isGarment hm (n := cG C) hxm.1.2.1 (by omega)
  have mP := X8_isOne hm (n := cP C) hxm.1.1 (by omega)
  obtain ⟨f1, f2, f3⟩ := hm.a2
  unfold fX7_dressed fX8_dressed
  rcases rowT h v with ⟨s, kk, l, h8, rfl, hr, w1, w2⟩ | ⟨c, j, w1, w2, w3, w4, w5, w6, w7⟩
  · obtain ⟨s1, s2, s3, s4, s5⟩ := hs.S h8
    obtain ⟨b1, b2⟩ := inb8 h8
    obtain ⟨⟨k4, l1⟩, r1, r2, r3, r4, r5⟩ := id hr
    obtain ⟨tx, tm⟩ := hr.t
    obtain ⟨d1, d2, ⟨g1, g2, g3⟩, d4⟩ := hs.D
    have hle : (nI (12 * cP C) ≤ nI l) = (12 * cP C ≤ l) := nI_le_iff (by omega) (by omega)
    have hlt : (nI l < nI (12 * cP C)) = (l < 12 * cP C) := nI_lt_iff (by omega) (by omega)
    unfold fX7_dressed_b43 fX7_dressed_b44 fX7_dressed_b84 fX8_dressed_b59
    simp only [chk_t t1, t2, t3, t4, t5, chk_t a1, chk_t a0, ob_eta, w1, w2, ob_s, if_true, if_pos (show (0 : Int32) ≤ 0 by decide), chk_t t6, t7, chk_t b1, b2, s1, chk_t s2, r3, hx.1.1, hx.1.2.1, tw_mul_nI, hlt, f1, chk_t f2, f3, r4, hxm.1.1, hxm.1.2.1, hle, X7_isWithin, X8_within]
    by_cases el : 12 * cP C ≤ l
    · have el' : ¬ l < 12 * cP C := by omega
      simp only [if_pos el, if_neg el']
      by_cases ek : (1 : Int32) ≤ k ∧ k ≤ 4
      · obtain ⟨n, n1, n2, rfl⟩ := rgN (a := 1) (b := 4) (by decide) ek (by decide)
        simp only [if_pos ek, if_neg n10, nI_lt_iff (show cG C < 2147483648 by omega) (show n < 2147483648 by omega), nI_le_iff (show n < 2147483648 by omega) (show cG C < 2147483648 by omega)]
        by_cases eg : n ≤ cG C
        · have eg' : ¬ cG C < n := by omega
          simp only [if_pos eg, if_neg eg', if_neg n10]
          by_cases ei : (-1 : Int32) ≤ i ∧ i ≤ nI n - 1
          · have h3 := rgM (show n < 5 by omega) ei
            unfold fX7_dressed_b91 fX7_dressed_b145
            simp only [if_pos ei, if_neg n10, chk_t t1, t2, t3, t4, t5, chk_t a1, chk_t a0, ob_eta, d1, ob_s, chk_t t6, t7, chk_t b1, b2, s1, chk_t d2]
            refine E2_of (r := drR C (fun i => (wL x (136 + 2 * s) i).toInt32) n i) (X := fun u => Fr cDr x u) (M := fun u => Fr cMx m u ∧ IsM u C) (Wp_c (X1_search hs hx hI h8 tx el (by omega) (by omega) eg) (fun u hu => ?_)) (X8_dressedL hm hxm hI h8 tm el (by omega) (by omega) eg h3) (fun u u' hu hu' => ?_)
            · obtain ⟨u1, u2, u3⟩ := hu
              have hsu := u1.shx hs
              obtain ⟨t1, t2, t3, t4, t5, t6, t7, t8, t9⟩ := hsu.T
              obtain ⟨d1, d2, ⟨g1, g2, g3⟩, d4⟩ := hsu.D
              unfold drR
              by_cases e : i = -1
              · simp only [if_pos e, chk_t t1, d1, ob_s, chk_t d2, u2]
                exact Wp_of rfl ⟨rfl, u1⟩
              · obtain ⟨j, hj, rfl⟩ : ∃ j, j < n ∧ i = nI j := h3.resolve_left e
                have b4 : inb (nI j) 4 := inb_nI (by omega) (by decide)
                simp only [if_neg e, chk_t t1, d1, ob_s, chk_t d2, g1, chk_t g2, g3, chk_t b4, nI_clamp (show j < 2 ^ 31 by omega), u3 j hj]
                exact Wp_of rfl ⟨rfl, u1⟩
            · exact h.same (hu.mono (fun a i q => Or.inr ⟨by have := q.1; omega, q.2⟩)) (hu.mono (fun a i q => by have := q.1; omega)) hu'.1 hu'.2
          · simp only [if_neg ei, if_true, chk_t t1, t2, t3, t4, t5, chk_t a1, chk_t a0, ob_eta, if_true]
            exact h.r5
        · have eg' : cG C < n := by omega
          unfold fX7_dressed_b91
          simp only [if_neg eg, if_pos eg', if_true, chk_t t1, t2, t3, t4, t5, chk_t a1, chk_t a0, ob_eta, if_true]
          exact h.r6
      · unfold fX7_dressed_b91
        simp only [if_neg ek, if_true, chk_t t1, t2, t3, t4, t5, chk_t a1, chk_t a0, ob_eta, if_true]
        exact h.r6
    · have el' : l < 12 * cP C := by omega
      simp only [if_neg el, if_pos el']
      by_cases ek : (1 : Int32) ≤ k ∧ k ≤ 4
      · simp only [if_pos ek, if_neg n10]
        by_cases eg : nI (cG C) < k
        · simp only [if_pos eg, chk_t t1, t2, t3, t4, t5, chk_t a1, chk_t a0, ob_eta, if_true]
          exact h.r5
        · simp only [if_neg eg, chk_t t1, t2, t3, t4, t5, chk_t a1, chk_t a0, ob_eta, if_true]
          exact h.r5
      · simp only [if_neg ek, if_true, chk_t t1, t2, t3, t4, t5, chk_t a1, chk_t a0, ob_eta, if_true]
        exact h.r5
  · simp only [chk_t t1, t2, t3, t4, t5, chk_t a1, chk_t a0, ob_eta, w1, w2, ob_s, if_neg w3, if_neg w4]
    exact h.r w5 w6 w7
