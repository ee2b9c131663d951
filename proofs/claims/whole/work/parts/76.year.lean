/-! draws, years -/
def dwS (s : Int32) : Int32 := s * 1103515245 + 12345
def dvN (s : Int32) (n : Nat) : Nat := ((dwS s).toBitVec.toNat / 2 ^ 16) % n
theorem I_of {x : Int32} {k : Nat} (hk : k < 2 ^ 32) (h : x.toBitVec.toNat = k) : x = nI k := Int32.toBitVec_inj.mp (BitVec.eq_of_toNat_eq (by rw [h, pk_tn hk]))
theorem ush16 (x : Int32) : (x.toUInt32 >>> ((16 : Int32).toUInt32 &&& Int32.toUInt32 31)).toInt32 = nI (x.toBitVec.toNat / 2 ^ 16) := by
  have h := pk_ushr x 16 16 (by decide)
  have hl : x.toBitVec.toNat < 2 ^ 32 := x.toBitVec.isLt
  exact I_of (by omega) h
theorem ush16_lt (x : Int32) : x.toBitVec.toNat / 2 ^ 16 < 65536 := by
  have hl : x.toBitVec.toNat < 2 ^ 32 := x.toBitVec.isLt
  omega
theorem X0_draw {w : Wd} {b : Nat} {s : Int32} {n : Nat} (o : isO w b 0) (h5 : wI w b 5 = s) (h0 : 0 < n) (hn : n < 2 ^ 31) : fX0_draw b (nI n) w = some (nI (dvN s n), sI w b 5 (dwS s)) := by
  have hz : ¬ n = 0 := by omega
  have ho : isO (sI w b 5 (s * 1103515245 + 12345)) b 0 := o
  unfold fX0_draw
  rw [chk_t o, h5, bnd_e]
  simp only [leR0 (show n < 2147483648 by omega), eqL0 (show n < 2147483648 by omega), if_neg (show ¬ n ≤ 0 by omega), chk_t ho, chk_t hz, wI_e, ush16, fX0_draw_b32]
  rw [pk_rem (Nat.lt_trans (ush16_lt _) (by decide)) h0 hn]
  rfl
theorem X8_draw {w : Wd} (hc : ShM w) {s : Int32} {n : Nat} (h5 : wI w 0 13 = s) (h0 : 0 < n) (hn : n < 2 ^ 31) : fX8_draw 0 (nI n) w = some (nI (dvN s n), sI w 0 13 (dwS s)) := by
  have hz : ¬ n = 0 := by omega
  have o := hc.O
  have ho : isO (sI w 0 13 (s * 1103515245 + 12345)) 0 8 := o
  unfold fX8_draw
  rw [chk_t o, h5, bnd_e]
  simp only [eqL0 (show n < 2147483648 by omega), chk_t ho, chk_t hz, wI_e, ush16]
  rw [pk_rem (Nat.lt_trans (ush16_lt _) (by decide)) h0 hn]
  rfl
theorem dv_lt (s : Int32) {n : Nat} (h0 : 0 < n) : dvN s n < n := Nat.mod_lt _ h0
def setS (C : Cl) (s : Int32) : Cl := (C.1, C.2.1, s, C.2.2.2)
theorem CI_setS {C : Cl} (hI : CI C) (s : Int32) : CI (setS C s) := hI
theorem IsX_setS {w : Wd} {b : Nat} {C : Cl} (hx : IsX w b C) (hI : CI C) (s : Int32) : IsX (sI w b 5 s) b (setS C s) := by
  have hP : cP C ≤ 6 := hI.1.1
  have hG : cG C ≤ 8 := hI.1.2
  refine ⟨⟨?_, ?_, wI_e _ _ _ _, ?_⟩, fun q hq => ?_, fun j hj => ?_⟩
  · rw [wI_n (by omega)]; exact hx.1.1
  · rw [wI_n (by omega)]; exact hx.1.2.1
  · rw [wI_n (by omega)]; exact hx.1.2.2.2
  · obtain ⟨h1, h2⟩ := hx.2.1 q hq
    refine ⟨?_, fun i hi => ?_⟩
    · rw [wI_n (by unfold pA; omega)]; exact h1
    · rw [wI_n (by unfold pA; omega)]; exact h2 i hi
  · obtain ⟨⟨h1, h2, h3⟩, h4⟩ := hx.2.2 j hj
    refine ⟨⟨?_, ?_, ?_⟩, fun i hi => ⟨?_, ?_⟩⟩
    · rw [wI_n (by unfold gA; omega)]; exact h1
    · rw [wI_n (by unfold gA; omega)]; exact h2
    · rw [wI_n (by unfold gA; omega)]; exact h3
    · rw [wI_n (by unfold gA; omega)]; exact (h4 i hi).1
    · rw [wI_n (by unfold gA; omega)]; exact (h4 i hi).2
theorem IsM_setS {w : Wd} {C : Cl} (hx : IsM w C) (s : Int32) : IsM (sI w 0 13 s) (setS C s) := by
  refine ⟨⟨?_, ?_, wI_e _ _ _ _, ?_⟩, fun q hq => ?_, fun j hj => ?_⟩
  · rw [wI_n (by omega)]; exact hx.1.1
  · rw [wI_n (by omega)]; exact hx.1.2.1
  · rw [wI_n (by omega)]; exact hx.1.2.2.2
  · obtain ⟨h1, h2⟩ := hx.2.1 q hq
    refine ⟨?_, fun i hi => ?_⟩
    · rw [wI_n (by omega)]; exact h1
    · rw [wI_n (by omega)]; exact h2 i hi
  · obtain ⟨⟨h1, h2, h3⟩, h4⟩ := hx.2.2 j hj
    refine ⟨⟨?_, ?_, ?_⟩, fun i hi => ⟨?_, ?_⟩⟩
    · rw [wI_n (by omega)]; exact h1
    · rw [wI_n (by omega)]; exact h2
    · rw [wI_n (by omega)]; exact h3
    · rw [wI_n (by omega)]; exact (h4 i hi).1
    · rw [wI_n (by omega)]; exact (h4 i hi).2
/-- a wearer -/
def wrC (C : Cl) (g W : Nat) : Cl := setG C (cG C) g (cKd C g) (cAa C g) W (cHb C g) (cFm C g)
theorem CI_wrC {C : Cl} (hI : CI C) {g W : Nat} (hg : g < cG C) (hW : W ≤ cP C) : CI (wrC C g W) := hI.setG hI.1.2 (Or.inl rfl) ⟨⟨(hI.g hg).1.1, (hI.g hg).1.2.1, hW⟩, (hI.g hg).2⟩
theorem IsX_wrC {w : Wd} {b : Nat} {C : Cl} (hx : IsX w b C) (hI : CI C) {g W : Nat} (hg : g < cG C) : IsX (sI w (gA b g) 4 (wv W)) b (wrC C g W) := by
  have h8 : cG C ≤ 8 := hI.1.2
  refine hx.setG hI h8 (Or.inl rfl) hg (fun a i q1 q2 => wI_n (by omega)) ?_ ?_
  · rw [wI_n (by unfold gA; omega)]; exact hx.1.2.1
  · obtain ⟨⟨h1, h2, h3⟩, h4⟩ := hx.g hg
    refine ⟨⟨?_, ?_, wI_e _ _ _ _⟩, fun i hi => ⟨?_, ?_⟩⟩
    · rw [wI_n (by omega)]; exact h1
    · rw [wI_n (by omega)]; exact h2
    · rw [wI_n (by omega)]; exact (h4 i hi).1
    · rw [wI_n (by omega)]; exact (h4 i hi).2
theorem IsM_wrC {w : Wd} {C : Cl} (hx : IsM w C) {g W : Nat} (hg : g < cG C) : IsM (sI w 8 g (wv W)) (wrC C g W) := by
  refine hx.setG (Or.inl rfl) (fun a i q1 q2 q3 => wI_n (by unfold cH at q2; omega)) ?_ ?_
  · rw [wI_n (by omega)]; exact hx.1.2.1
  · obtain ⟨⟨h1, h2, h3⟩, h4⟩ := hx.g hg
    refine ⟨⟨?_, ?_, wI_e _ _ _ _⟩, fun i hi => ⟨?_, ?_⟩⟩
    · rw [wI_n (by omega)]; exact h1
    · rw [wI_n (by omega)]; exact h2
    · rw [wI_n (by omega)]; exact (h4 i hi).1
    · rw [wI_n (by omega)]; exact (h4 i hi).2
theorem wsC_P (C : Cl) (g : Nat) : cP (wsC C g) = cP C := rfl
theorem wsC_G (C : Cl) (g : Nat) : cG (wsC C g) = cG C := rfl
theorem wrC_P (C : Cl) (g W : Nat) : cP (wrC C g W) = cP C := rfl
theorem wrC_G (C : Cl) (g W : Nat) : cG (wrC C g W) = cG C := rfl
theorem setS_P (C : Cl) (s : Int32) : cP (setS C s) = cP C := rfl
theorem setS_G (C : Cl) (s : Int32) : cG (setS C s) = cG C := rfl
def yrD (C : Cl) (s2 s3 : Int32) (g f q : Nat) : Cl :=
  if f = 0 then wsC (setS C s2) g else if f = 1 then wrC (setS C s2) g 0 else if cP C = 0 then wrC (setS C s2) g 0 else wrC (setS C s3) g (q + 1)
theorem yrD_P (C : Cl) (s2 s3 : Int32) (g f q : Nat) : cP (yrD C s2 s3 g f q) = cP C := by
  unfold yrD
  by_cases e1 : f = 0
  · rw [if_pos e1]; rfl
  · rw [if_neg e1]
    by_cases e2 : f = 1
    · rw [if_pos e2]; rfl
    · rw [if_neg e2]
      by_cases e3 : cP C = 0
      · rw [if_pos e3]; rfl
      · rw [if_neg e3]; rfl
theorem yrD_G (C : Cl) (s2 s3 : Int32) (g f q : Nat) : cG (yrD C s2 s3 g f q) = cG C := by
  unfold yrD
  by_cases e1 : f = 0
  · rw [if_pos e1]; rfl
  · rw [if_neg e1]
    by_cases e2 : f = 1
    · rw [if_pos e2]; rfl
    · rw [if_neg e2]
      by_cases e3 : cP C = 0
      · rw [if_pos e3]; rfl
      · rw [if_neg e3]; rfl
theorem CI_yrD {C : Cl} (hI : CI C) (s2 s3 : Int32) {g f q : Nat} (hg : g < cG C) (hq : 0 < cP C → q < cP C) : CI (yrD C s2 s3 g f q) := by
  unfold yrD
  by_cases e1 : f = 0
  · rw [if_pos e1]; exact CI_wsC (CI_setS hI _) hg
  · rw [if_neg e1]
    by_cases e2 : f = 1
    · rw [if_pos e2]; exact CI_wrC (CI_setS hI _) hg (Nat.zero_le _)
    · rw [if_neg e2]
      by_cases e3 : cP C = 0
      · rw [if_pos e3]; exact CI_wrC (CI_setS hI _) hg (Nat.zero_le _)
      · rw [if_neg e3]; exact CI_wrC (CI_setS hI _) hg (hq (by omega))
def yrB (C : Cl) : Cl := yrD C (dwS (dwS (cSd C))) (dwS (dwS (dwS (cSd C)))) (dvN (cSd C) (cG C)) (dvN (dwS (cSd C)) 4) (dvN (dwS (dwS (cSd C))) (cP C))
theorem yrB_P (C : Cl) : cP (yrB C) = cP C := yrD_P _ _ _ _ _ _
theorem yrB_G (C : Cl) : cG (yrB C) = cG C := yrD_G _ _ _ _ _ _
theorem CI_yrB {C : Cl} (hI : CI C) (h0 : 0 < cG C) : CI (yrB C) := CI_yrD hI _ _ (dv_lt _ h0) (fun h => dv_lt _ h)
def yrC (C : Cl) : Cl := dayC (yrB C)
theorem X0_yearT {w : Wd} {b : Nat} {C : Cl} (hc : ClS w b) (hx : IsX w b C) (hI : CI C) {s1 s2 s3 : Int32} {g f q : Nat} (hg : g < cG C) (hf4 : f < 4) (hq : 0 < cP C → q < cP C)
    (d1 : fX0_draw b (nI (cG C)) w = some (nI g, sI w b 5 s1)) (d2 : fX0_draw b 4 (sI w b 5 s1) = some (nI f, sI w b 5 s2)) (d3 : 0 < cP C → fX0_draw b (nI (cP C)) (sI w b 5 s2) = some (nI q, sI w b 5 s3)) :
    Wp (fX0_passYear b w) (fun v => Fr (cCl b) w v ∧ IsX v b (dayC (yrD C s2 s3 g f q))) := by
  have hP : cP C ≤ 6 := hI.1.1
  have hG : cG C ≤ 8 := hI.1.2
  have hI2 := CI_setS hI s2
  have hIB := CI_yrD hI s2 s3 (f := f) hg hq
  obtain ⟨a1, a2, a3, a4, a5, a6, a7, a8, a9, a10⟩ := hc.B
  obtain ⟨p1, p2, p3, p4, p5, p6, p7, p8, p9, p10⟩ := hc.G (show g < 8 by omega)
  have hf2 : Fr (cCl b) w (sI w b 5 s2) := Fr_sI _ ⟨by omega, by omega⟩
  have hc2 : ClS (sI w b 5 s2) b := hf2.cl hc
  have hx2 := IsX_setS hx hI s2
  have hgr := X0_hasGarment hc2 (n := cG C) hx2.1.2.1 (by omega) (nI g)
  rw [bI_t (isN_nI hg (by omega))] at hgr
  have tail : ∀ v, Fr (cCl b) w v → IsX v b (yrD C s2 s3 g f q) → Wp (fX0_passYear_b81 b v) (fun v => Fr (cCl b) w v ∧ IsX v b (dayC (yrD C s2 s3 g f q))) := by
    intro v hf hxv
    have hcv := hf.cl hc
    obtain ⟨a1, -⟩ := hcv.B
    unfold fX0_passYear_b81
    rw [chk_t a1]
    exact Wp_c (X0_passDay hcv hxv hIB) (fun q hq => Wp_of rfl ⟨hf.trans hq.2.1, hq.2.2⟩)
  have offT : yrD C s2 s3 g f q = wrC (setS C s2) g 0 → Wp (fX0_passYear_b51 b (nI g) (sI w b 5 s2)) (fun v => Fr (cCl b) w v ∧ IsX v b (dayC (yrD C s2 s3 g f q))) := by
    intro he
    obtain ⟨a1, a2, a3, a4, a5, a6, a7, a8, a9, a10⟩ := hc2.B
    obtain ⟨p1, p2, p3, p4, p5, p6, p7, p8, p9, p10⟩ := hc2.G (show g < 8 by omega)
    unfold fX0_passYear_b51
    simp only [chk_t a1, a3, ob_s, chk_t a7, a8, chk_t p1, p2, p3, chk_t p4, bnd_e]
    refine tail _ (hf2.sI _ ⟨by unfold gA; omega, by unfold gA; omega⟩) ?_
    rw [he]
    exact IsX_wrC (W := 0) hx2 hI2 hg
  unfold fX0_passYear
  obtain ⟨b1, b2, b3, b4, b5, b6, b7, b8, b9, b10⟩ := hc2.B
  obtain ⟨r1, r2, r3, r4, -⟩ := hc2.G (show g < 8 by omega)
  simp only [chk_t a1, hx.1.2.1, d1, ob_s, cO_s, d2, hgr, if_neg n10, eqL0 (show f < 2147483648 by omega), eqL1 (show f < 2147483648 by omega)]
  by_cases e1 : f = 0
  · simp only [if_pos e1, wR_sI, a3, ob_s, chk_t b7, wn_sI, a8, chk_t p1, p2, p3, chk_t p4, cA_s, chk_t a7]
    refine Wp_c (X0_launder hc2 hx2 hI2 hg) (fun v hv => tail v (hf2.trans (hv.1.mono (fun a i q => ⟨by unfold gA at q; omega, by unfold gA at q; omega⟩))) ?_)
    unfold yrD
    rw [if_pos e1]
    exact hv.2
  · simp only [if_neg e1]
    by_cases e2 : f = 1
    · simp only [if_pos e2]
      exact offT (by unfold yrD; rw [if_neg e1, if_pos e2])
    · have e3' : wI (sI w b 5 s2) b 3 = nI (cP C) := hx2.1.1
      simp only [if_neg e2, e3', eqL0 (show cP C < 2147483648 by omega)]
      by_cases e3 : cP C = 0
      · simp only [if_pos e3]
        exact offT (by unfold yrD; rw [if_neg e1, if_neg e2, if_pos e3])
      · have d3 := d3 (by omega)
        have hf3 : Fr (cCl b) w (sI w b 5 s3) := Fr_sI _ ⟨by omega, by omega⟩
        have hx3 := IsX_setS hx hI s3
        have hI3 := CI_setS hI s3
        simp only [if_neg e3, wR_sI, wn_sI, cA_s, a3, ob_s, chk_t a7, a8, chk_t p1, p2, p3, d3, cO_s, chk_t p4, bnd_e]
        refine tail _ (hf3.sI _ ⟨by unfold gA; omega, by unfold gA; omega⟩) ?_
        have he : yrD C s2 s3 g f q = wrC (setS C s3) g (q + 1) := by unfold yrD; rw [if_neg e1, if_neg e2, if_neg e3]
        rw [he]
        have hh := IsX_wrC (W := q + 1) hx3 hI3 hg
        rw [wv_s] at hh
        exact hh
theorem X0_draw' {w : Wd} {b : Nat} {s : Int32} {n : Nat} (o : isO w b 0) (h0 : 0 < n) (hn : n < 2 ^ 31) (t : Int32) (ht : t = dwS s) (g : Nat) (hg : g = dvN s n) : fX0_draw b (nI n) (sI w b 5 s) = some (nI g, sI w b 5 t) := by
  have h := X0_draw (w := sI w b 5 s) (b := b) (s := s) (n := n) o (wI_e _ _ _ _) h0 hn
  rw [sI_sI] at h
  rw [h, ht, hg]
theorem X0_passYear {w : Wd} {b : Nat} {C : Cl} (hc : ClS w b) (hx : IsX w b C) (hI : CI C) (h0 : 0 < cG C) : Wp (fX0_passYear b w) (fun v => Fr (cCl b) w v ∧ IsX v b (yrC C)) := by
  have hP : cP C ≤ 6 := hI.1.1
  have hG : cG C ≤ 8 := hI.1.2
  obtain ⟨a1, -⟩ := hc.B
  exact X0_yearT hc hx hI (dv_lt (cSd C) h0) (dv_lt (dwS (cSd C)) (by decide)) (fun h => dv_lt (dwS (dwS (cSd C))) h) (X0_draw a1 hx.1.2.2.1 h0 (by omega)) (X0_draw' (n := 4) a1 (by decide) (by decide) _ rfl _ rfl) (fun h => X0_draw' a1 h (by omega) _ rfl _ rfl)
def ynC (C : Cl) : Nat → Cl
  | 0 => C
  | n + 1 => yrC (ynC C n)
theorem ynC_G (C : Cl) : ∀ n, cG (ynC C n) = cG C
  | 0 => rfl
  | n + 1 => (dayC_G _).trans ((yrB_G _).trans (ynC_G C n))
theorem CI_ynC {C : Cl} (hI : CI C) (h0 : 0 < cG C) : ∀ n, CI (ynC C n)
  | 0 => hI
  | n + 1 => CI_dayC (CI_yrB (CI_ynC hI h0 n) (by rw [ynC_G]; exact h0))
theorem X7_yearsL {w : Wd} {C : Cl} (hs : ShX w) (hx : IsX w 3 C) (hI : CI C) (h0 : 0 < cG C) {n : Nat} (hn : n < 61) : Wp (fX7_years_L36 0 (nI n) (0, w)) (fun q => q.1 = nI (haS (ynC C n) (cG C)) ∧ Fr (cCl 3) w q.2 ∧ IsX q.2 3 (ynC C n)) := by
  unfold fX7_years_L36
  refine it_w1 (fun i v => Fr (cCl 3) w v ∧ IsX v 3 (ynC C i)) n (by omega) ⟨Fr.refl w, hx⟩ (fun i v hi hv => ?_) (fun v hv => ?_)
  · obtain ⟨hf, hxv⟩ := hv
    have hsv := hf.shx hs
    have hcv := hsv.cl (b := 3) (Or.inl rfl)
    obtain ⟨a1, -⟩ := hcv.B
    obtain ⟨t1, t2, t3, t4, t5, t6, t7, t8, t9⟩ := hsv.T
    unfold fX7_years_L36_body
    simp only [nI_le_iff (show n < 2147483648 by omega) (show i < 2147483648 by omega), if_neg (Nat.not_le.mpr hi), chk_t t1, t4, ob_s, chk_t a1]
    refine Wp_c (X0_passYear hcv hxv (CI_ynC hI h0 i) (by rw [ynC_G]; exact h0)) (fun u hu => ?_)
    rw [Wp_l]
    exact ⟨nI_1 i, hf.trans hu.1, hu.2⟩
  · obtain ⟨hf, hxv⟩ := hv
    have hsv := hf.shx hs
    have hcv := hsv.cl (b := 3) (Or.inl rfl)
    obtain ⟨a1, -⟩ := hcv.B
    obtain ⟨t1, t2, t3, t4, t5, t6, t7, t8, t9⟩ := hsv.T
    unfold fX7_years_L36_body
    simp only [Int32.le_refl, if_true, chk_t t1, t4, ob_s, chk_t a1, X0_countHabits hcv hxv (CI_ynC hI h0 n)]
    refine Wp_wr (Wp_of rfl ⟨?_, hf, hxv⟩)
    rw [ynC_G]
theorem X8_yearT {w : Wd} {D : Cl} (hs : ShM w) (hx : IsM w D) (hI : CI D) {s1 s2 s3 : Int32} {g f q : Nat} (hg : g < cG D) (hf4 : f < 4) (hq : 0 < cP D → q < cP D) (x1 y : Int32) {n i : Nat} (hx1 : x1 = nI n) (hy : y = nI i) (hi : i < n) (hn : n < 61)
    (d1 : fX8_draw 0 (nI (cG D)) w = some (nI g, sI w 0 13 s1)) (d2 : fX8_draw 0 4 (sI w 0 13 s1) = some (nI f, sI w 0 13 s2)) (d3 : 0 < cP D → fX8_draw 0 (nI (cP D)) (sI w 0 13 s2) = some (nI q, sI w 0 13 s3)) {P : Int32 × Wd → Prop} :
    Wp (fX8_years_L33_body 0 x1 (y, w)) (lp (fun s => s.1 = nI (i + 1) ∧ Fr cMx w s.2 ∧ IsM s.2 (dayC (yrD D s2 s3 g f q))) P) := by
  subst hx1
  subst hy
  have hP : cP D ≤ 6 := hI.1.1
  have hG : cG D ≤ 8 := hI.1.2
  have hIB := CI_yrD hI s2 s3 (f := f) hg hq
  have hI2 := CI_setS hI s2
  have a0 := hs.O
  have hf2 : Fr cMx w (sI w 0 13 s2) := Fr_sI _ (by unfold cMx; omega)
  have hs2 : ShM (sI w 0 13 s2) := hs
  have hx2 := IsM_setS hx s2
  obtain ⟨b1, b2⟩ := inb8 (show g < 8 by omega)
  obtain ⟨g1, g2, g3⟩ := hs.a8
  have tail : ∀ u, Fr cMx w u → IsM u (yrD D s2 s3 g f q) → Wp (fX8_years_b98 0 (nI n) (nI i) u) (lp (fun s => s.1 = nI (i + 1) ∧ Fr cMx w s.2 ∧ IsM s.2 (dayC (yrD D s2 s3 g f q))) P) := by
    intro u hu hxu
    have hsu := hu.shm hs
    unfold fX8_years_b98
    rw [chk_t hsu.O]
    refine Wp_c (X8_day hsu hxu hIB) (fun q hq => ?_)
    rw [Wp_l]
    exact ⟨nI_1 i, hu.trans (hq.2.1.mono (fun a i q => cMx_d q)), hq.2.2⟩
  have offT : yrD D s2 s3 g f q = wrC (setS D s2) g 0 → Wp (fX8_years_b85 0 (nI n) (nI i) (nI g) 8 (sI w 0 13 s2)) (lp (fun s => s.1 = nI (i + 1) ∧ Fr cMx w s.2 ∧ IsM s.2 (dayC (yrD D s2 s3 g f q))) P) := by
    intro he
    unfold fX8_years_b85 fX8_years_b97
    simp only [cA_s, wn_sI, chk_t g2, g3, chk_t b1, b2, bnd_e]
    refine tail _ (hf2.sI _ (by unfold cMx; omega)) ?_
    rw [he]
    exact IsM_wrC (W := 0) hx2 hg
  have e6 : wI w 0 6 = nI (cG D) := hx.1.2.1
  have e3' : wI (sI w 0 13 s2) 0 3 = nI (cP D) := hx2.1.1
  unfold fX8_years_L33_body
  simp only [nI_le_iff (show n < 2147483648 by omega) (show i < 2147483648 by omega), if_neg (Nat.not_le.mpr hi), chk_t a0, e6, d1, ob_s, cO_s, d2, eqL0 (show f < 2147483648 by omega), eqL1 (show f < 2147483648 by omega)]
  by_cases e1 : f = 0
  · simp only [if_pos e1]
    refine Wp_c (X8_washes hs2 hx2 hI2 hg) (fun u hu => tail u (hf2.trans (hu.1.mono (fun a i q => by unfold cM9 at q; unfold cMx; omega))) ?_)
    unfold yrD
    rw [if_pos e1]
    exact hu.2
  · simp only [if_neg e1, wR_sI, g1, ob_s]
    by_cases e2 : f = 1
    · simp only [if_pos e2]
      exact offT (by unfold yrD; rw [if_neg e1, if_pos e2])
    · simp only [if_neg e2, e3', eqL0 (show cP D < 2147483648 by omega)]
      by_cases e3 : cP D = 0
      · simp only [if_pos e3]
        exact offT (by unfold yrD; rw [if_neg e1, if_neg e2, if_pos e3])
      · have d3 := d3 (by omega)
        have hf3 : Fr cMx w (sI w 0 13 s3) := Fr_sI _ (by unfold cMx; omega)
        have hx3 := IsM_setS hx s3
        simp only [if_neg e3, d3, ob_s, fX8_years_b97, wn_sI, cA_s, chk_t g2, g3, chk_t b1, b2, bnd_e]
        refine tail _ (hf3.sI _ (by unfold cMx; omega)) ?_
        have he : yrD D s2 s3 g f q = wrC (setS D s3) g (q + 1) := by unfold yrD; rw [if_neg e1, if_neg e2, if_neg e3]
        rw [he]
        have hh := IsM_wrC (W := q + 1) hx3 hg
        rw [wv_s] at hh
        exact hh
theorem X8_draw' {w : Wd} (hc : ShM w) {s : Int32} {n : Nat} (h0 : 0 < n) (hn : n < 2 ^ 31) (t : Int32) (ht : t = dwS s) (g : Nat) (hg : g = dvN s n) : fX8_draw 0 (nI n) (sI w 0 13 s) = some (nI g, sI w 0 13 t) := by
  have h := X8_draw (w := sI w 0 13 s) (s := s) (n := n) hc (wI_e _ _ _ _) h0 hn
  rw [sI_sI] at h
  rw [h, ht, hg]
theorem X8_yearsL {w : Wd} {C : Cl} (hc : ShM w) (hx : IsM w C) (hI : CI C) (h0 : 0 < cG C) {n : Nat} (hn : n < 61) : Wp (fX8_years_L33 0 (nI n) (0, w)) (fun q => q.1 = nI (haS (ynC C n) (cG C)) ∧ Fr cMx w q.2 ∧ IsM q.2 (ynC C n)) := by
  unfold fX8_years_L33
  refine it_w1 (fun i v => Fr cMx w v ∧ IsM v (ynC C i)) n (by omega) ⟨Fr.refl w, hx⟩ (fun i v hi hv => ?_) (fun v hv => ?_)
  · obtain ⟨hf, hxv⟩ := hv
    have hs := hf.shm hc
    have hIi := CI_ynC hI h0 i
    have h0i : 0 < cG (ynC C i) := by rw [ynC_G]; exact h0
    have hh := X8_yearT hs hxv hIi (dv_lt (cSd (ynC C i)) h0i) (dv_lt (dwS (cSd (ynC C i))) (by decide)) (fun h => dv_lt (dwS (dwS (cSd (ynC C i)))) h) (nI n) (nI i) rfl rfl hi hn (X8_draw hs hxv.1.2.2.1 h0i (by have := hIi.1.2; omega)) (X8_draw' (n := 4) hs (by decide) (by decide) _ rfl _ rfl) (fun h => X8_draw' hs h (by have := hIi.1.1; omega) _ rfl _ rfl) (P := fun q => q.1 = nI (haS (ynC C n) (cG C)) ∧ Fr cMx w q.2 ∧ IsM q.2 (ynC C n))
    refine Wp_m hh (fun r hr => ?_)
    cases r with
    | inl s => exact ⟨hr.1, hf.trans hr.2.1, hr.2.2⟩
    | inr s => exact hr
  · obtain ⟨hf, hxv⟩ := hv
    have hs := hf.shm hc
    have a0 := hs.O
    unfold fX8_years_L33_body
    simp only [Int32.le_refl, if_true, chk_t a0, ob_s, X8_allHabits hs hxv (CI_ynC hI h0 n)]
    refine Wp_wr (Wp_of rfl ⟨?_, hf, hxv⟩)
    rw [ynC_G]
def dtS (C : Cl) : Nat → Nat
  | 0 => 0
  | n + 1 => dtS C n + dsS (dnC C n) 12
theorem X7_daysL {w : Wd} {C : Cl} (hs : ShX w) (hx : IsX w 3 C) (hI : CI C) {n : Nat} (hn : n < 61) : Wp (fX7_days_L21 0 (nI n) (0, 0, w)) (fun q => q.1 = nI (dtS C n) ∧ Fr (cCl 3) w q.2 ∧ IsX q.2 3 (dnC C n)) := by
  unfold fX7_days_L21
  refine it_w2 (fun i x v => x = nI (dtS C i) ∧ Fr (cCl 3) w v ∧ IsX v 3 (dnC C i)) n (by omega) ⟨rfl, Fr.refl w, hx⟩ (fun i x v hi hv => ?_) (fun x v hv => ?_)
  · obtain ⟨rfl, hf, hxv⟩ := hv
    have hsv := hf.shx hs
    have hcv := hsv.cl (b := 3) (Or.inl rfl)
    obtain ⟨a1, -⟩ := hcv.B
    obtain ⟨t1, t2, t3, t4, t5, t6, t7, t8, t9⟩ := hsv.T
    unfold fX7_days_L21_body
    simp only [nI_le_iff (show n < 2147483648 by omega) (show i < 2147483648 by omega), if_neg (Nat.not_le.mpr hi), chk_t t1, t4, ob_s, chk_t a1]
    refine Wp_c (X0_passDay hcv hxv (CI_dnC hI i)) (fun q hq => ?_)
    rw [bnd_e, Wp_l, hq.1]
    exact ⟨nI_1 i, nI_add _ _, hf.trans hq.2.1, hq.2.2⟩
  · unfold fX7_days_L21_body
    simp only [Int32.le_refl, if_true]
    exact Wp_wr (Wp_of rfl hv)
theorem X8_daysL {w : Wd} {C : Cl} (hc : ShM w) (hx : IsM w C) (hI : CI C) {n : Nat} (hn : n < 61) : Wp (fX8_days_L21 0 (nI n) (0, 0, w)) (fun q => q.1 = nI (dtS C n) ∧ Fr cMx w q.2 ∧ IsM q.2 (dnC C n)) := by
  unfold fX8_days_L21
  refine it_w2 (fun i x v => x = nI (dtS C i) ∧ Fr cMx w v ∧ IsM v (dnC C i)) n (by omega) ⟨rfl, Fr.refl w, hx⟩ (fun i x v hi hv => ?_) (fun x v hv => ?_)
  · obtain ⟨rfl, hf, hxv⟩ := hv
    have hs := hf.shm hc
    unfold fX8_days_L21_body
    simp only [nI_le_iff (show n < 2147483648 by omega) (show i < 2147483648 by omega), if_neg (Nat.not_le.mpr hi), chk_t hs.O]
    refine Wp_c (X8_day hs hxv (CI_dnC hI i)) (fun q hq => ?_)
    rw [bnd_e, Wp_l, hq.1]
    exact ⟨nI_1 i, nI_add _ _, hf.trans (hq.2.1.mono (fun a i q => cMx_d q)), hq.2.2⟩
  · unfold fX8_days_L21_body
    simp only [Int32.le_refl, if_true]
    exact Wp_wr (Wp_of rfl hv)
