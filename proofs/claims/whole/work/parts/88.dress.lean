/-! ways to dress -/
def dg (B k t g : Nat) : Nat := t / B ^ (k - 1 - g) % B
def ckA (B k t i : Nat) : Bool := !((List.range i).all (fun j => dg B k t (k - 1 - j) == B - 1) && Nat.blt (dg B k t (k - 1 - i)) (B - 1)) || (Nat.blt (t + 1) (B ^ k) && (List.range k).all (fun g => dg B k (t + 1) g == (bif Nat.blt g (k - 1 - i) then dg B k t g else bif g == k - 1 - i then dg B k t g + 1 else 0)))
def ckB (B k t : Nat) : Bool := (List.range k).all (ckA B k t) && (!((List.range k).all (fun j => dg B k t (k - 1 - j) == B - 1)) || (t + 1 == B ^ k))
set_option maxRecDepth 100000 in
theorem ck_ok : ((List.range 7).all fun B => (List.range 4).all fun k => (List.range ((B + 1) ^ (k + 1))).all fun t => ckB (B + 1) (k + 1) t) = true := by decide +kernel
theorem ckw_at {P k t : Nat} (hP : P < 7) (h0 : 0 < k) (hk : k < 5) (ht : t < (P + 1) ^ k) : ckB (P + 1) k t = true := by
  have h := ck_ok
  rw [List.all_eq_true] at h
  have h := h P (List.mem_range.mpr hP)
  rw [List.all_eq_true] at h
  have h := h (k - 1) (List.mem_range.mpr (by omega))
  rw [show k - 1 + 1 = k by omega, List.all_eq_true] at h
  exact h t (List.mem_range.mpr ht)
theorem dg_next {P k t i : Nat} (hP : P < 7) (hi : i < k) (hk : k < 5) (ht : t < (P + 1) ^ k) (hm : ∀ j, j < i → dg (P + 1) k t (k - 1 - j) = P) (hl : dg (P + 1) k t (k - 1 - i) < P) : t + 1 < (P + 1) ^ k ∧ ∀ g, g < k → dg (P + 1) k (t + 1) g = if g < k - 1 - i then dg (P + 1) k t g else if g = k - 1 - i then dg (P + 1) k t g + 1 else 0 := by
  have h := ckw_at hP (by omega) hk ht
  unfold ckB at h
  rw [Bool.and_eq_true, List.all_eq_true] at h
  have h := h.1 i (List.mem_range.mpr hi)
  unfold ckA at h
  have e1 : (List.range i).all (fun j => dg (P + 1) k t (k - 1 - j) == P + 1 - 1) = true := by
    rw [List.all_eq_true]
    intro j hj
    rw [hm j (List.mem_range.mp hj), Nat.add_sub_cancel]
    exact beq_self_eq_true P
  have e2 : Nat.blt (dg (P + 1) k t (k - 1 - i)) (P + 1 - 1) = true := by
    rw [Nat.add_sub_cancel]
    exact Nat.ble_eq.mpr hl
  rw [e1, e2, Bool.and_self, Bool.not_true, Bool.false_or, Bool.and_eq_true, List.all_eq_true] at h
  refine ⟨Nat.le_of_ble_eq_true h.1, fun g hg => ?_⟩
  have h := h.2 g (List.mem_range.mpr hg)
  rw [beq_iff_eq] at h
  rw [h]
  by_cases q : g < k - 1 - i
  · rw [if_pos q, show Nat.blt g (k - 1 - i) = true from Nat.ble_eq.mpr q]
    rfl
  · rw [if_neg q, show Nat.blt g (k - 1 - i) = false from Bool.eq_false_iff.mpr (fun r => q (Nat.le_of_ble_eq_true r))]
    by_cases r : g = k - 1 - i
    · rw [if_pos r, show (g == k - 1 - i) = true from beq_iff_eq.mpr r]
      rfl
    · rw [if_neg r, show (g == k - 1 - i) = false from beq_eq_false_iff_ne.mpr r]
      rfl
theorem dg_last {P k t : Nat} (hP : P < 7) (h0 : 0 < k) (hk : k < 5) (ht : t < (P + 1) ^ k) (hm : ∀ j, j < k → dg (P + 1) k t (k - 1 - j) = P) : t + 1 = (P + 1) ^ k := by
  have h := ckw_at hP h0 hk ht
  unfold ckB at h
  rw [Bool.and_eq_true] at h
  have h := h.2
  have e1 : (List.range k).all (fun j => dg (P + 1) k t (k - 1 - j) == P + 1 - 1) = true := by
    rw [List.all_eq_true]
    intro j hj
    rw [hm j (List.mem_range.mp hj), Nat.add_sub_cancel]
    exact beq_self_eq_true P
  rw [e1, Bool.not_true, Bool.false_or, beq_iff_eq] at h
  exact h
theorem dg_lt {P k t g : Nat} : dg (P + 1) k t g ≤ P := Nat.le_of_lt_succ (Nat.mod_lt _ (Nat.succ_pos P))
theorem pw_le {P k : Nat} (hP : P < 7) (hk : k < 5) : (P + 1) ^ k ≤ 2401 := by
  have h1 : (P + 1) ^ k ≤ 7 ^ k := Nat.pow_le_pow_left (by omega) k
  have h2 : 7 ^ k ≤ 7 ^ 4 := Nat.pow_le_pow_right (by decide) (by omega)
  have h3 : 7 ^ 4 = 2401 := by decide
  omega
/-! scores -/
def sumN (f : Nat → Nat) : Nat → Nat
  | 0 => 0
  | n + 1 => sumN f n + f n
theorem sumN_congr {f g : Nat → Nat} : ∀ n, (∀ i, i < n → f i = g i) → sumN f n = sumN g n
  | 0, _ => rfl
  | n + 1, h => by
    show sumN f n + f n = sumN g n + g n
    rw [sumN_congr n (fun i hi => h i (by omega)), h n (Nat.lt_succ_self n)]
theorem sumN_le {f : Nat → Nat} : ∀ n, (∀ i, i < n → f i ≤ 12) → sumN f n ≤ 12 * n
  | 0, _ => Nat.le_refl 0
  | n + 1, h => by
    have := sumN_le n (fun i hi => h i (by omega))
    have := h n (Nat.lt_succ_self n)
    show sumN f n + f n ≤ _
    omega
def drC (C : Cl) (k : Nat) (W : Nat → Nat) : Cl := (C.1, C.2.1, C.2.2.1, C.2.2.2.1, C.2.2.2.2.1, C.2.2.2.2.2.1, C.2.2.2.2.2.2.1, (fun g => if g < k then W g else cWr C g), C.2.2.2.2.2.2.2.2)
theorem CI_drC {C : Cl} (hI : CI C) (k : Nat) {W : Nat → Nat} (hW : ∀ g, g < k → W g ≤ cP C) : CI (drC C k W) := by
  refine ⟨hI.1, hI.2.1, fun g hg => ⟨⟨(hI.2.2 g hg).1.1, (hI.2.2 g hg).1.2.1, ?_⟩, (hI.2.2 g hg).2⟩⟩
  show (if g < k then W g else cWr C g) ≤ cP C
  by_cases e : g < k
  · rw [if_pos e]; exact hW g e
  · rw [if_neg e]; exact (hI.2.2 g hg).1.2.2
def slS (C : Cl) (d : Nat → Int32) (p m : Nat) : Nat := cntN (fun h => decide (d (12 * p + h) = nI (deedS C p h (fun g => m.testBit g) (cWl C p)))) 12
def drS (C : Cl) (d : Nat → Int32) (k : Nat) (W : Nat → Nat) (p : Nat) : Nat := cntN (fun h => decide (d (12 * p + h) = nI (doesS (drC C k W) p h))) 12
def drT (C : Cl) (d : Nat → Int32) (k : Nat) (W : Nat → Nat) : Nat := sumN (drS C d k W) (cP C)
theorem drT_le (C : Cl) (d : Nat → Int32) (k : Nat) (W : Nat → Nat) (hP : cP C ≤ 6) : drT C d k W ≤ 72 := by
  have := sumN_le (f := drS C d k W) (cP C) (fun i _ => cntN_le _ 12)
  unfold drT
  omega
/-- the worn bits that stay, and the load -/
def styB (C : Cl) (k p : Nat) : Nat := bN (fun g => decide (cWr C g = p + 1)) (cG C) &&& (255 - (2 ^ k - 1))
def ldB (W : Nat → Nat) (p k : Nat) : Nat := bN (fun g => decide (W g = p + 1)) k
theorem ch_bit : ∀ k, k < 5 → ∀ g, g < 8 → (255 - (2 ^ k - 1)).testBit g = !decide (g < k) := by decide +kernel
theorem sl_dr {C : Cl} (hI : CI C) (d : Nat → Int32) {k : Nat} (hk : k < 5) (hkG : k ≤ cG C) (W : Nat → Nat) (p : Nat) : slS C d p (styB C k p ||| ldB W p k) = drS C d k W p := by
  have hG : cG C ≤ 8 := hI.1.2
  refine cntN_congr 12 (fun h _ => ?_)
  have e : deedS C p h (fun g => (styB C k p ||| ldB W p k).testBit g) (cWl C p) = doesS (drC C k W) p h := by
    show _ = deedS C p h (fun g => decide ((if g < k then W g else cWr C g) = p + 1)) (cWl C p)
    refine deed_congr (fun g hg => ?_)
    unfold styB ldB
    rw [Nat.testBit_or, Nat.testBit_and, bN_bit, bN_bit, ch_bit k hk g (by omega)]
    by_cases q : g < k
    · rw [if_pos q, decide_eq_true q, decide_eq_true hg]
      simp
    · rw [if_neg q, decide_eq_false q, decide_eq_true hg]
      simp
  rw [e]
/-- the best of the first t ways: how many deeds, and 1; which -/
def bwS (C : Cl) (d : Nat → Int32) (k : Nat) : Nat → Nat × Nat
  | 0 => (0, 0)
  | t + 1 => if (bwS C d k t).1 < drT C d k (dg (cP C + 1) k t) + 1 then (drT C d k (dg (cP C + 1) k t) + 1, t) else bwS C d k t
theorem bwS_s (C : Cl) (d : Nat → Int32) (k t : Nat) : bwS C d k (t + 1) = if (bwS C d k t).1 < drT C d k (dg (cP C + 1) k t) + 1 then (drT C d k (dg (cP C + 1) k t) + 1, t) else bwS C d k t := rfl
theorem bwS_le (C : Cl) (d : Nat → Int32) (k : Nat) (hP : cP C ≤ 6) : ∀ t, (bwS C d k t).1 ≤ 73
  | 0 => Nat.zero_le 73
  | t + 1 => by
    have := drT_le C d k (dg (cP C + 1) k t) hP
    rw [bwS_s]
    by_cases e : (bwS C d k t).1 < drT C d k (dg (cP C + 1) k t) + 1
    · rw [if_pos e]
      show drT C d k (dg (cP C + 1) k t) + 1 ≤ 73
      omega
    · rw [if_neg e]; exact bwS_le C d k hP t
theorem wv_lt {M T : Nat} (hM : M < 1000) (hT : T < 1000) : (wv M < nI T) = (M < T + 1) := by
  cases M with
  | zero =>
    rw [wv_0]
    exact propext ⟨fun _ => Nat.succ_pos T, fun _ => Int32.lt_of_lt_of_le (show (-1 : Int32) < 0 by decide) (by rw [leL0 (by omega)]; exact Nat.zero_le T)⟩
  | succ M =>
    rw [wv_s, nI_lt_iff (by omega) (by omega)]
    exact propext ⟨fun q => by omega, fun q => by omega⟩
theorem wv_le {M T : Nat} (hM : M < 1000) (hT : T < 1000) : (nI T ≤ wv M) = ¬ (M < T + 1) := by
  have h := wv_lt hM hT
  exact propext ⟨fun q r => absurd (h.mpr r) (Int32.not_lt.mpr q), fun q => Int32.not_lt.mp (fun r => q (h.mp r))⟩
/-! in x -/
theorem or16 : ∀ l, l < 16 → ∀ m, m < 256 → nI m ||| nI l = nI (m ||| l) := by decide +kernel
theorem or16b : ∀ l, l < 16 → ∀ m, m < 256 → m ||| l < 256 := by decide +kernel
theorem ShX.D {x : Wd} (hs : ShX x) : wR x 0 7 = some 128 ∧ isO x 128 1 ∧ (wR x 128 0 = some 129 ∧ isA x 129 0 ∧ wn x 129 = 4) ∧ (wR x 128 2 = some 130 ∧ isA x 130 0 ∧ wn x 130 = 4) ∧ (wR x 128 3 = some 131 ∧ isA x 131 0 ∧ wn x 131 = 6) ∧ wR x 128 4 = some 132 ∧ isA x 132 0 ∧ wn x 132 = 96 :=
  ⟨hs.R (by decide) (by decide) (fun q => by omega) (by decide +kernel), ⟨by rw [hs.1]; decide, (hs.K (n := 0) (by decide) (by decide +kernel)).1⟩,
   ⟨hs.R (by decide) (by decide) (fun q => by omega) (by decide +kernel), ⟨by rw [hs.1]; decide, (hs.K (n := 4) (by decide) (by decide +kernel)).1⟩, (hs.K (k := 0) (by decide) (by decide +kernel)).2⟩,
   ⟨hs.R (by decide) (by decide) (fun q => by omega) (by decide +kernel), ⟨by rw [hs.1]; decide, (hs.K (n := 4) (by decide) (by decide +kernel)).1⟩, (hs.K (k := 0) (by decide) (by decide +kernel)).2⟩,
   ⟨hs.R (by decide) (by decide) (fun q => by omega) (by decide +kernel), ⟨by rw [hs.1]; decide, (hs.K (n := 6) (by decide) (by decide +kernel)).1⟩, (hs.K (k := 0) (by decide) (by decide +kernel)).2⟩,
   hs.R (by decide) (by decide) (fun q => by omega) (by decide +kernel), ⟨by rw [hs.1]; decide, (hs.K (n := 96) (by decide) (by decide +kernel)).1⟩, (hs.K (k := 0) (by decide) (by decide +kernel)).2⟩
theorem X1_scoreLoad {w : Wd} {C : Cl} (hs : ShX w) (hx : IsX w 3 C) (hI : CI C) {s l p m : Nat} {d : Nat → Int32} (h8 : s < 8) (ht : TX w s l d) (hl : 12 * cP C ≤ l) (hp : p < cP C) (hm : m < 256) : fX1_scoreLoad 3 (135 + 2 * s) (nI p) (nI m) w = some (nI (slS C d p m), w) := by
  have hP : cP C ≤ 6 := hI.1.1
  have hc := hs.cl (b := 3) (Or.inl rfl)
  obtain ⟨a1, a2, a3, a4, a5, a6, a7, a8, a9, a10⟩ := hc.B
  obtain ⟨p1, p2, p3, p4, -⟩ := hc.P (show p < 6 by omega)
  obtain ⟨s1, s2, s3, s4, s5⟩ := hs.S h8
  have hwl := (hI.2.1 p hp).1
  unfold fX1_scoreLoad fX1_scoreLoad_L6
  refine it_for (fun i => (nI (cntN (fun h => decide (d (12 * p + h) = nI (deedS C p h (fun g => m.testBit g) (cWl C p)))) i), nI i, w)) 12 (by decide) (fun i hi => ?_) ?_
  · have e1 : nI p * 12 + nI i = nI (12 * p + i) := by
      rw [show nI p * 12 = nI (p * 12) from nI_mul p 12, nI_add]
      exact congrArg nI (by omega)
    unfold fX1_scoreLoad_L6_body
    simp only [leL12 (show i < 2147483648 by omega), if_neg (Nat.not_le.mpr hi), chk_t a1, a2, ob_s, chk_t a5, a6, chk_t p1, p2, p3, chk_t p4, (hx.2.1 p hp).1, X0_deedIn hc hx hI hp hi hm (show cWl C p ≤ 27 by omega), chk_t s2, e1, X6_intAt hs h8 ht (show 12 * p + i < 2147483648 by omega), if_pos (show 12 * p + i < l by omega), fX1_scoreLoad_b51, nI_1]
    rw [cntN_s]
    by_cases e : d (12 * p + i) = nI (deedS C p i (fun g => m.testBit g) (cWl C p))
    · rw [if_pos e, if_pos (decide_eq_true e)]
    · rw [if_neg e, if_neg (by rw [decide_eq_false e]; decide)]
      rfl
  · rfl
def ScX (v : Wd) (C : Cl) (d : Nat → Int32) (k n : Nat) : Prop := ∀ p, p < n → ∀ j, j < 2 ^ k → wI v 132 (16 * p + j) = nI (slS C d p (styB C k p ||| j))
theorem p2_16 : ∀ k, k < 5 → 2 ^ k ≤ 16 ∧ 0 < 2 ^ k := by decide
theorem X1_loadsP {w v : Wd} {C : Cl} (hs : ShX w) (hx : IsX w 3 C) (hI : CI C) {s l k p : Nat} {d : Nat → Int32} (h8 : s < 8) (ht : TX w s l d) (hl : 12 * cP C ≤ l) (hk : k < 5) (hp : p < cP C) (hf : Fr (fun a _ => a = 132) w v) (hv : ScX v C d k p) {P : Wd → Prop} : Wp (fX1_scoreLoads_L35 128 3 (135 + 2 * s) (nI (2 ^ k - 1)) (nI p) (nI (styB C k p)) (0, v)) (lp (fun s => s.1 = nI (p + 1) ∧ Fr (fun a _ => a = 132) w s.2 ∧ ScX s.2 C d k (p + 1)) P) := by
  have hP : cP C ≤ 6 := hI.1.1
  have hG : cG C ≤ 8 := hI.1.2
  obtain ⟨k16, k0⟩ := p2_16 k hk
  have hwl := bN_256 (fun g => decide (cWr C g = p + 1)) hG
  have hst : styB C k p < 256 := and_256 _ _ hwl
  unfold fX1_scoreLoads_L35
  refine it_w1 (fun j u => Fr (fun a _ => a = 132) w u ∧ ScX u C d k p ∧ ∀ i, i < j → wI u 132 (16 * p + i) = nI (slS C d p (styB C k p ||| i))) (2 ^ k) (by omega) ⟨hf, hv, fun i q => absurd q (Nat.not_lt_zero i)⟩ (fun j u hj hu => ?_) (fun u hu => ?_)
  · obtain ⟨hg, hu1, hu2⟩ := hu
    have hsu := hg.shx hs
    have hxu := hx.fr hI hg (fun a i q => by omega)
    have htu := ht.fr hg (by omega)
    obtain ⟨d1, d2, d3, d4, d5, d6, d7, d8⟩ := hsu.D
    have eo := or16 j (by omega) _ hst
    have eob := or16b j (by omega) _ hst
    have e1 : nI p * 16 + nI j = nI (16 * p + j) := by
      rw [show nI p * 16 = nI (p * 16) from nI_mul p 16, nI_add]
      exact congrArg nI (by omega)
    unfold fX1_scoreLoads_L35_body
    simp only [nI_lt_iff (show 2 ^ k - 1 < 2147483648 by omega) (show j < 2147483648 by omega), if_neg (show ¬ 2 ^ k - 1 < j by omega), chk_t d2, d6, ob_s, eo, X1_scoreLoad hsu hxu hI h8 htu hl hp eob, chk_t d7, d8, e1, chk_t (inb_nI (show 16 * p + j < 96 by omega) (by decide)), nI_clamp (show 16 * p + j < 2 ^ 31 by omega), bnd_e, Wp_l]
    refine ⟨nI_1 j, hg.sI _ rfl, fun p' hp' j' hj' => ?_, fun i hi => ?_⟩
    · rw [wI_n (by omega)]
      exact hu1 p' hp' j' hj'
    · by_cases e : i = j
      · subst e
        exact wI_e _ _ _ _
      · rw [wI_n (by omega)]
        exact hu2 i (by omega)
  · obtain ⟨hg, hu1, hu2⟩ := hu
    unfold fX1_scoreLoads_L35_body
    simp only [nI_lt_iff (show 2 ^ k - 1 < 2147483648 by omega) (show 2 ^ k < 2147483648 by omega), if_pos (show 2 ^ k - 1 < 2 ^ k by omega)]
    refine Wp_wr ?_
    rw [Wp_l]
    refine ⟨nI_1 p, hg, fun p' hp' j' hj' => ?_⟩
    by_cases e : p' = p
    · subst e
      exact hu2 j' hj'
    · exact hu1 p' (by omega) j' hj'
theorem X1_scoreLoads {w : Wd} {C : Cl} (hs : ShX w) (hx : IsX w 3 C) (hI : CI C) {s l k : Nat} {d : Nat → Int32} (h8 : s < 8) (ht : TX w s l d) (hl : 12 * cP C ≤ l) (hk : k < 5) : Wp (fX1_scoreLoads 128 3 (135 + 2 * s) (nI k) w) (fun v => Fr (fun a _ => a = 132) w v ∧ ScX v C d k (cP C)) := by
  have hP : cP C ≤ 6 := hI.1.1
  have hG : cG C ≤ 8 := hI.1.2
  obtain ⟨k16, k0⟩ := p2_16 k hk
  have ech : (1 : Int32) <<< (nI k &&& 31) - 1 = nI (2 ^ k - 1) := by
    rw [sl_8 k (by omega), show (1 : Int32) = nI 1 from rfl, pk_sub k0]
  unfold fX1_scoreLoads fX1_scoreLoads_L10
  rw [bnd_e, ech]
  refine it_w1 (fun p v => Fr (fun a _ => a = 132) w v ∧ ScX v C d k p) (cP C) (by omega) ⟨Fr.refl w, fun p q => absurd q (Nat.not_lt_zero p)⟩ (fun p v hp hv => ?_) (fun v hv => ?_)
  · obtain ⟨hf, hv⟩ := hv
    have hsv := hf.shx hs
    have hcv := hsv.cl (b := 3) (Or.inl rfl)
    have hxv := hx.fr hI hf (fun a i q => by omega)
    obtain ⟨a1, -⟩ := hcv.B
    have hwb := X0_wornBy hcv hxv hI (show p + 1 < 100 by omega)
    rw [wv_s] at hwb
    have hwl := bN_256 (fun g => decide (cWr C g = p + 1)) hG
    have est : nI (bN (fun g => decide (cWr C g = p + 1)) (cG C)) &&& (nI (2 ^ k - 1) ^^^ (-1)) = nI (styB C k p) := nd_c _ (by omega) _ hwl
    have hst : styB C k p < 256 := and_256 _ _ hwl
    unfold fX1_scoreLoads_L10_body
    rw [chk_t a1, hxv.1.1, if_neg (by rw [nI_le_iff (show cP C < 2147483648 by omega) (show p < 2147483648 by omega)]; omega), hwb, ob_s]
    dsimp only
    rw [bnd_e, est]
    exact X1_loadsP hs hx hI h8 ht hl hk hp hf hv
  · obtain ⟨hf, hv⟩ := hv
    have hsv := hf.shx hs
    have hcv := hsv.cl (b := 3) (Or.inl rfl)
    have hxv := hx.fr hI hf (fun a i q => by omega)
    obtain ⟨a1, -⟩ := hcv.B
    unfold fX1_scoreLoads_L10_body
    simp only [chk_t a1, hxv.1.1, Int32.le_refl, if_true]
    exact Wp_wr (Wp_of rfl ⟨hf, hv⟩)
def WyX (v : Wd) (k : Nat) (W : Nat → Nat) : Prop := ∀ g, g < k → wI v 130 g = nI (W g)
theorem ld_lt (W : Nat → Nat) (p : Nat) {k : Nat} (hk : k < 5) : ldB W p k < 2 ^ k := bN_lt _ k
theorem X1_scoreWay {w : Wd} {C : Cl} (hs : ShX w) (hI : CI C) {k : Nat} {d : Nat → Int32} (hk : k < 5) (hkG : k ≤ cG C) {W : Nat → Nat} (hW : ∀ g, g < k → W g ≤ cP C) (hsc : ScX w C d k (cP C)) (hw : WyX w k W) : Wp (fX1_scoreWay 128 (nI (cP C)) (nI k) w) (fun q => q.1 = nI (drT C d k W) ∧ Fr (fun a _ => a = 131) w q.2) := by
  have hP : cP C ≤ 6 := hI.1.1
  obtain ⟨k16, k0⟩ := p2_16 k hk
  obtain ⟨d1, d2, d3, d4, ⟨d5, d6, d7⟩, d8⟩ := hs.D
  unfold fX1_scoreWay
  simp only [chk_t d2, d5, ob_s]
  refine Wp_c (J7_fill (n := 6) d6 d7 (by decide) 0) (fun w1 h1 => ?_)
  have hs1 := h1.1.shx hs
  unfold fX1_scoreWay_L10
  refine it_w1 (fun i v => Fr (fun a _ => a = 131) w v ∧ ∀ p, p < cP C → wI v 131 p = nI (ldB W p i)) k (by omega) ⟨h1.1, fun p hp => h1.2 p (by omega)⟩ (fun i v hi hv => ?_) (fun v hv => ?_)
  · obtain ⟨hf, hv⟩ := hv
    have hsv := hf.shx hs
    obtain ⟨d1, d2, d3, ⟨e1, e2, e3⟩, ⟨f1, f2, f3⟩, g1⟩ := hsv.D
    have ew : wI v 130 i = nI (W i) := by rw [hf.at (by omega)]; exact hw i hi
    have b1 : inb (nI i) 4 := inb_nI (by omega) (by decide)
    have hWi := hW i hi
    unfold fX1_scoreWay_L10_body
    simp only [nI_le_iff (show k < 2147483648 by omega) (show i < 2147483648 by omega), if_neg (Nat.not_le.mpr hi), chk_t d2, e1, ob_s, chk_t e2, e3, chk_t b1, nI_clamp (show i < 2 ^ 31 by omega), ew, leR0 (show W i < 2147483648 by omega), fX1_scoreWay_b43]
    by_cases e : W i ≤ 0
    · simp only [if_pos e, Wp_l]
      refine ⟨nI_1 i, hf, fun p hp => ?_⟩
      rw [hv p hp]
      show nI (ldB W p i) = nI (bN (fun g => decide (W g = p + 1)) (i + 1))
      rw [bN_s, if_neg (by simp; omega)]
      rfl
    · obtain ⟨q, hq⟩ : ∃ q, W i = q + 1 := ⟨W i - 1, by omega⟩
      have eq1 : nI (q + 1) - 1 = nI q := nI_pred q
      obtain ⟨c1, c2⟩ := inb6 (show q < 6 by omega)
      have hb := bN_256 (fun g => decide (W g = q + 1)) (show i ≤ 8 by omega)
      have eo := or_bit i (by omega) _ hb
      rw [if_neg e]
      simp only [hq, eq1, f1, ob_s, chk_t f2, f3, chk_t c1, c2, hv q (by omega), bnd_e, Wp_l]
      refine ⟨nI_1 i, hf.sI _ rfl, fun p hp => ?_⟩
      show _ = nI (bN (fun g => decide (W g = p + 1)) (i + 1))
      rw [bN_s]
      by_cases r : p = q
      · subst r
        rw [wI_e, if_pos (by simp [hq])]
        exact eo
      · rw [wI_n (by omega), hv p hp, if_neg (by simp; omega)]
        rfl
  · obtain ⟨hf, hv⟩ := hv
    have hsv := hf.shx hs
    obtain ⟨d1, d2, d3, d4, ⟨f1, f2, f3⟩, g1, g2, g3⟩ := hsv.D
    unfold fX1_scoreWay_L10_body
    simp only [Int32.le_refl, if_true]
    refine Wp_wr ?_
    unfold fX1_scoreWay_L54
    refine it_w2 (fun p x u => u = v ∧ x = nI (sumN (drS C d k W) p)) (cP C) (by omega) ⟨rfl, rfl⟩ (fun p x u hp hu => ?_) (fun x u hu => ?_)
    · obtain ⟨rfl, rfl⟩ := hu
      obtain ⟨c1, c2⟩ := inb6 (show p < 6 by omega)
      have hld := ld_lt W p hk
      have e1 : nI p * 16 + nI (ldB W p k) = nI (16 * p + ldB W p k) := by
        rw [show nI p * 16 = nI (p * 16) from nI_mul p 16, nI_add]
        exact congrArg nI (by omega)
      have e2 : wI u 132 (16 * p + ldB W p k) = nI (drS C d k W p) := by
        rw [hf.at (by omega), hsc p hp _ hld, sl_dr hI d hk hkG W p]
      unfold fX1_scoreWay_L54_body
      simp only [nI_le_iff (show cP C < 2147483648 by omega) (show p < 2147483648 by omega), if_neg (Nat.not_le.mpr hp), chk_t d2, g1, f1, ob_s, chk_t f2, f3, chk_t c1, c2, hv p hp, chk_t g2, g3, e1, chk_t (inb_nI (show 16 * p + ldB W p k < 96 by omega) (by decide)), nI_clamp (show 16 * p + ldB W p k < 2 ^ 31 by omega), e2, bnd_e, Wp_l]
      exact ⟨nI_1 p, trivial, nI_add _ _⟩
    · obtain ⟨rfl, rfl⟩ := hu
      unfold fX1_scoreWay_L54_body
      simp only [Int32.le_refl, if_true]
      exact Wp_wr (Wp_of rfl ⟨rfl, hf⟩)
theorem X1_advance {w : Wd} (hs : ShX w) {P k t : Nat} (hP : P < 7) (h0 : 0 < k) (hk : k < 5) (ht : t < (P + 1) ^ k) (hw : WyX w k (dg (P + 1) k t)) : Wp (fX1_advance 128 (nI P) (nI k) w) (fun q => q.1 = (if t + 1 < (P + 1) ^ k then 1 else 0) ∧ Fr (fun a _ => a = 130) w q.2 ∧ (t + 1 < (P + 1) ^ k → WyX q.2 k (dg (P + 1) k (t + 1)))) := by
  unfold fX1_advance fX1_advance_L4
  rw [bnd_e, show nI k - 1 = wv k from rfl]
  refine it_wp (fun i s => s.1 = wv (k - i) ∧ Fr (fun a _ => a = 130) w s.2 ∧ (∀ g, g < k - i → wI s.2 130 g = nI (dg (P + 1) k t g)) ∧ (∀ g, k - i ≤ g → g < k → wI s.2 130 g = nI 0) ∧ ∀ j, j < i → dg (P + 1) k t (k - 1 - j) = P) k (by omega) (fun i s hi hv => ?_) (fun s hv => ?_) ⟨rfl, Fr.refl w, fun g hg => hw g hg, fun g h1 h2 => by omega, fun j q => absurd q (Nat.not_lt_zero j)⟩
  · obtain ⟨y, v⟩ := s
    obtain ⟨e, hf, h1, h2, h3⟩ := hv
    have e : y = wv (k - i) := e
    rw [show k - i = (k - 1 - i) + 1 by omega, wv_s] at e
    subst e
    have hf : Fr (fun a _ => a = 130) w v := hf
    have hsv := hf.shx hs
    have h1 : ∀ g, g < k - i → wI v 130 g = nI (dg (P + 1) k t g) := h1
    have h2 : ∀ g, k - i ≤ g → g < k → wI v 130 g = nI 0 := h2
    obtain ⟨d1, d2, d3, ⟨e1, e2, e3⟩, d5⟩ := hsv.D
    have b1 : inb (nI (k - 1 - i)) 4 := inb_nI (by omega) (by decide)
    have hd := dg_lt (P := P) (k := k) (t := t) (g := k - 1 - i)
    unfold fX1_advance_L4_body
    simp only [if_neg (nI_pos (show k - 1 - i < 2147483648 by omega)), chk_t d2, e1, ob_s, chk_t e2, e3, chk_t b1, nI_clamp (show k - 1 - i < 2 ^ 31 by omega), h1 (k - 1 - i) (by omega), nI_le_iff (show P < 2147483648 by omega) (show dg (P + 1) k t (k - 1 - i) < 2147483648 by omega)]
    by_cases e : P ≤ dg (P + 1) k t (k - 1 - i)
    · simp only [if_pos e, bnd_e, Wp_l]
      refine ⟨?_, hf.sI _ rfl, fun g hg => ?_, fun g g1 g2 => ?_, fun j hj => ?_⟩
      · rw [show k - (i + 1) = k - 1 - i by omega]
        unfold wv
        rw [Int32.sub_eq_add_neg]
      · rw [wI_n (by omega)]
        exact h1 g (by omega)
      · by_cases r : g = k - 1 - i
        · rw [r, wI_e]
          rfl
        · rw [wI_n (by omega)]
          exact h2 g (by omega) g2
      · by_cases r : j = i
        · rw [r]; omega
        · exact h3 j (by omega)
    · simp only [if_neg e, bnd_e]
      obtain ⟨n1, n2⟩ := dg_next hP hi hk ht h3 (by omega)
      refine Wp_wr (Wp_of rfl ⟨?_, hf.sI _ rfl, fun _ g hg => ?_⟩)
      · rw [if_pos n1]
      · rw [n2 g hg]
        by_cases r : g = k - 1 - i
        · rw [r, wI_e, if_neg (Nat.lt_irrefl _), if_pos rfl]
          exact nI_1 _
        · rw [wI_n (by omega)]
          by_cases r2 : g < k - 1 - i
          · rw [if_pos r2]
            exact h1 g (by omega)
          · rw [if_neg r2, if_neg r]
            exact h2 g (by omega) hg
  · obtain ⟨y, v⟩ := s
    obtain ⟨e, hf, h1, h2, h3⟩ := hv
    have e : y = wv (k - k) := e
    rw [Nat.sub_self, wv_0] at e
    subst e
    have hl := dg_last hP h0 hk ht h3
    unfold fX1_advance_L4_body
    simp only [if_pos (show (-1 : Int32) < 0 by decide)]
    refine Wp_wr (Wp_of rfl ⟨?_, hf, fun q => by omega⟩)
    rw [if_neg (by omega)]
