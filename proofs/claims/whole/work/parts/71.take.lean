/-! taking, keeping -/
theorem cO_c {α : Type} (w : Wd) (a b sp dp n : Nat) (x c : Nat) (k : Option α) : chk (isO (cpI w a b sp dp n) x c) k = chk (isO w x c) k := rfl
theorem cA_c {α : Type} (w : Wd) (a b sp dp n : Nat) (x c : Nat) (k : Option α) : chk (isA (cpI w a b sp dp n) x c) k = chk (isA w x c) k := rfl
theorem wR_c (w : Wd) (a b sp dp n : Nat) : wR (cpI w a b sp dp n) = wR w := rfl
theorem wn_c (w : Wd) (a b sp dp n : Nat) : wn (cpI w a b sp dp n) = wn w := rfl
theorem wI_ce {w : Wd} {a b n i : Nat} (h : i < n) : wI (cpI w a b 0 0 n) b i = wI w a i := by
  unfold cpI
  rw [wI_sIr, if_pos rfl]
  unfold va_cpy
  rw [if_pos ⟨Nat.zero_le i, by omega⟩, Nat.zero_add, Nat.sub_zero]
theorem wI_cn {w : Wd} {a b c sp dp n : Nat} (h : c ≠ b) : wI (cpI w a b sp dp n) c = wI w c := by
  unfold cpI
  rw [wI_sIr, if_neg h]
theorem Fr.cp {S : Nat → Nat → Prop} {w w' : Wd} (h : Fr S w w') {a b sp dp n : Nat} (hs : ∀ i, S b i) : Fr S w (cpI w' a b sp dp n) := by
  refine ⟨h.1, h.2.1, h.2.2.1, fun c j q => ?_⟩
  rw [wI_cn (fun r => q (by rw [r]; exact hs j))]
  exact h.2.2.2 c j q
theorem tN0 : (0 : Int32).toNatClampNeg = 0 := by decide
theorem tN12 : (12 : Int32).toNatClampNeg = 12 := by decide
theorem c12 {α : Type} (k : Option α) : chk (¬ (0 : Int32) < 0 ∧ ¬ (0 : Int32) < 0 ∧ ¬ (12 : Int32) < 0 ∧ 0 + 12 ≤ 12 ∧ 0 + 12 ≤ 12) k = k := chk_t (by decide) k
theorem IsG.fr {S : Nat → Nat → Prop} {w w' : Wd} {a k A W : Nat} {hb fm : Nat → Nat} (hG : IsG w a k A W hb fm) (hf : Fr S w w') (hS : ∀ x i, S x i → ¬ (a ≤ x ∧ x ≤ a + 2)) : IsG w' a k A W hb fm := by
  obtain ⟨⟨h1, h2, h3⟩, h4⟩ := hG
  refine ⟨⟨?_, ?_, ?_⟩, fun i hi => ⟨?_, ?_⟩⟩
  · rw [hf.at (fun r => hS _ _ r (by omega))]; exact h1
  · rw [hf.at (fun r => hS _ _ r (by omega))]; exact h2
  · rw [hf.at (fun r => hS _ _ r (by omega))]; exact h3
  · rw [hf.at (fun r => hS _ _ r (by omega))]; exact (h4 i hi).1
  · rw [hf.at (fun r => hS _ _ r (by omega))]; exact (h4 i hi).2
theorem X2_take {w : Wd} {a c k A W : Nat} {hb fm : Nat → Nat} (hg : GaS w a) (hh : GaS w c) (hG : IsG w c k A W hb fm) (hd : a + 2 < c ∨ c + 2 < a) : Wp (fX2_take a c w) (fun w' => Fr (cG3 a) w w' ∧ IsG w' a k A W hb fm) := by
  obtain ⟨g1, g2, g3, g4, g5, g6, g7, g8⟩ := hg
  obtain ⟨k1, k2, k3, k4, k5, k6, k7, k8⟩ := hh
  obtain ⟨⟨h1, h2, h3⟩, h4⟩ := hG
  have o : isO w a 2 := ⟨by omega, g2⟩
  have o2 : isO w c 2 := ⟨by omega, k2⟩
  have i1 : isA w (a + 1) 0 := ⟨by omega, g5⟩
  have i2 : isA w (a + 2) 0 := ⟨by omega, g7⟩
  have j1 : isA w (c + 1) 0 := ⟨by omega, k5⟩
  have j2 : isA w (c + 2) 0 := ⟨by omega, k7⟩
  unfold fX2_take
  simp only [chk_t o2, chk_t o, bnd_e, cO_s, wR_sI, k3, g3, ob_s, cA_s, chk_t j1, chk_t i1, wn_sI, k6, g6, tN0, tN12, c12, cO_c, wR_c, cA_c, wn_c, k4, g4, chk_t j2, chk_t i2, k8, g8, Wp_s]
  refine ⟨((((Fr_sI _ ⟨by omega, by omega⟩).sI _ ⟨by omega, by omega⟩).sI _ ⟨by omega, by omega⟩).cp (fun i => ⟨by omega, by omega⟩)).cp (fun i => ⟨by omega, by omega⟩), ⟨?_, ?_, ?_⟩, fun i hi => ⟨?_, ?_⟩⟩
  · rw [wI_cn (by omega), wI_cn (by omega), wI_n (by omega), wI_n (by omega), wI_e]; exact h1
  · rw [wI_cn (by omega), wI_cn (by omega), wI_n (by omega), wI_e, wI_n (by omega)]; exact h2
  · rw [wI_cn (by omega), wI_cn (by omega), wI_e, wI_n (by omega), wI_n (by omega)]; exact h3
  · rw [wI_cn (by omega), wI_ce hi, wI_n (by omega), wI_n (by omega), wI_n (by omega)]; exact (h4 i hi).1
  · rw [wI_ce hi, wI_cn (by omega), wI_n (by omega), wI_n (by omega), wI_n (by omega)]; exact (h4 i hi).2
def IsP (w : Wd) (a v : Nat) (ow : Nat → Nat) : Prop := wI w a 1 = nI v ∧ ∀ h, h < 12 → wI w (a + 1) h = nI (ow h)
theorem IsP.fr {S : Nat → Nat → Prop} {w w' : Wd} {a v : Nat} {ow : Nat → Nat} (hG : IsP w a v ow) (hf : Fr S w w') (hS : ∀ x i, S x i → ¬ (a ≤ x ∧ x ≤ a + 1)) : IsP w' a v ow := by
  obtain ⟨h1, h4⟩ := hG
  refine ⟨?_, fun i hi => ?_⟩
  · rw [hf.at (fun r => hS _ _ r (by omega))]; exact h1
  · rw [hf.at (fun r => hS _ _ r (by omega))]; exact h4 i hi
theorem X4_take {w : Wd} {a c v : Nat} {ow : Nat → Nat} (hg : PeS w a) (hh : PeS w c) (hG : IsP w c v ow) (hd : a + 1 < c ∨ c + 1 < a) : Wp (fX4_take a c w) (fun w' => Fr (fun x _ => a ≤ x ∧ x ≤ a + 1) w w' ∧ IsP w' a v ow) := by
  obtain ⟨g1, g2, g3, g4, g5⟩ := hg
  obtain ⟨k1, k2, k3, k4, k5⟩ := hh
  obtain ⟨h1, h4⟩ := hG
  have o : isO w a 4 := ⟨by omega, g2⟩
  have o2 : isO w c 4 := ⟨by omega, k2⟩
  have i1 : isA w (a + 1) 0 := ⟨by omega, g4⟩
  have j1 : isA w (c + 1) 0 := ⟨by omega, k4⟩
  unfold fX4_take
  simp only [chk_t o2, chk_t o, bnd_e, cO_s, wR_sI, k3, g3, ob_s, cA_s, chk_t j1, chk_t i1, wn_sI, k5, g5, tN0, tN12, c12, Wp_s]
  refine ⟨(Fr_sI (S := fun x _ => a ≤ x ∧ x ≤ a + 1) _ ⟨by omega, by omega⟩).cp (fun i => ⟨by omega, by omega⟩), ?_, fun i hi => ?_⟩
  · rw [wI_cn (by omega), wI_e]; exact h1
  · rw [wI_ce hi, wI_n (by omega)]; exact h4 i hi
theorem X0_takeG {w : Wd} {b c : Nat} {C : Cl} (hc : ClS w b) (hk : ClS w c) (hx : IsX w c C) (hI : CI C) (hd : b + 40 ≤ c ∨ c + 40 ≤ b) (h4 : wI w b 4 = nI (cG C)) : Wp (fX0_take_L65 b c (0, w)) (fun w' => Fr (fun x _ => b + 16 ≤ x ∧ x < b + 40) w w' ∧ ∀ g, g < cG C → IsG w' (gA b g) (cKd C g) (cAa C g) (cWr C g) (cHb C g) (cFm C g)) := by
  have h8 : cG C ≤ 8 := hI.1.2
  unfold fX0_take_L65
  refine it_w1 (fun i v => Fr (fun x _ => b + 16 ≤ x ∧ x < b + 40) w v ∧ ∀ g, g < i → IsG v (gA b g) (cKd C g) (cAa C g) (cWr C g) (cHb C g) (cFm C g)) (cG C) (by omega) ⟨Fr.refl w, fun g q => absurd q (Nat.not_lt_zero g)⟩ (fun i v hi hv => ?_) (fun v hv => ?_)
  · obtain ⟨hf, hv⟩ := hv
    have hcv := hf.cl hc
    have hkv := hf.cl hk
    have hxv := hx.fr hI hf (fun a i q => by omega)
    obtain ⟨a1, a2, a3, a4, a5, a6, a7, a8, a9, a10⟩ := hcv.B
    obtain ⟨p1, p2, p3, p4, -⟩ := hcv.G (show i < 8 by omega)
    obtain ⟨b1, b2, b3, b4, b5, b6, b7, b8, b9, b10⟩ := hkv.B
    obtain ⟨q1, q2, q3, q4, -⟩ := hkv.G (show i < 8 by omega)
    have e4 : wI v b 4 = nI (cG C) := by rw [hf.at (by omega)]; exact h4
    have hle : (nI (cG C) ≤ nI i) = (cG C ≤ i) := nI_le_iff (by omega) (by omega)
    unfold fX0_take_L65_body
    simp only [chk_t a1, e4, hle, if_neg (Nat.not_le.mpr hi), a3, ob_s, chk_t a7, a8, chk_t p1, p2, p3, chk_t b1, b3, chk_t b7, b8, q3, chk_t p4]
    have eg : gA b i = b + 16 + 3 * i := rfl
    have ek : gA c i = c + 16 + 3 * i := rfl
    refine Wp_c (X2_take (hcv.2.2 i (by omega)).2 (hkv.2.2 i (by omega)).2 (hxv.g hi) (by omega)) (fun u hu => ?_)
    rw [Wp_l]
    refine ⟨nI_1 i, hf.trans (hu.1.mono (fun x j q => ?_)), fun g hg => ?_⟩
    · have := q.1
      have := q.2
      exact ⟨by omega, by omega⟩
    · by_cases e : g = i
      · subst e
        exact hu.2
      · exact (hv g (by omega)).fr hu.1 (fun x j q => by
          have := q.1
          have := q.2
          have el : gA b g = b + 16 + 3 * g := rfl
          omega)
  · obtain ⟨hf, hv⟩ := hv
    have hcv := hf.cl hc
    obtain ⟨a1, -⟩ := hcv.B
    have e4 : wI v b 4 = nI (cG C) := by rw [hf.at (by omega)]; exact h4
    have hle : (nI (cG C) ≤ nI (cG C)) = (cG C ≤ cG C) := nI_le_iff (by omega) (by omega)
    unfold fX0_take_L65_body
    simp only [chk_t a1, e4, hle, Nat.le_refl, if_true]
    exact Wp_wr (Wp_of rfl ⟨hf, hv⟩)
theorem X0_takeP {w : Wd} {b c : Nat} {C : Cl} (hc : ClS w b) (hk : ClS w c) (hx : IsX w c C) (hI : CI C) (hd : b + 40 ≤ c ∨ c + 40 ≤ b) (h3 : wI w b 3 = nI (cP C)) (h4 : wI w b 4 = nI (cG C)) : Wp (fX0_take_L34 b c (0, w)) (fun w' => Fr (fun x _ => b + 4 ≤ x ∧ x < b + 40) w w' ∧ (∀ p, p < cP C → IsP w' (pA b p) (cWl C p) (cOw C p)) ∧ ∀ g, g < cG C → IsG w' (gA b g) (cKd C g) (cAa C g) (cWr C g) (cHb C g) (cFm C g)) := by
  have h6 : cP C ≤ 6 := hI.1.1
  unfold fX0_take_L34
  refine it_w1 (fun i v => Fr (fun x _ => b + 4 ≤ x ∧ x < b + 16) w v ∧ ∀ g, g < i → IsP v (pA b g) (cWl C g) (cOw C g)) (cP C) (by omega) ⟨Fr.refl w, fun g q => absurd q (Nat.not_lt_zero g)⟩ (fun i v hi hv => ?_) (fun v hv => ?_)
  · obtain ⟨hf, hv⟩ := hv
    have hcv := hf.cl hc
    have hkv := hf.cl hk
    have hxv := hx.fr hI hf (fun a i q => by omega)
    obtain ⟨a1, a2, a3, a4, a5, a6, a7, a8, a9, a10⟩ := hcv.B
    obtain ⟨p1, p2, p3, p4, -⟩ := hcv.P (show i < 6 by omega)
    obtain ⟨b1, b2, b3, b4, b5, b6, b7, b8, b9, b10⟩ := hkv.B
    obtain ⟨q1, q2, q3, q4, -⟩ := hkv.P (show i < 6 by omega)
    have e4 : wI v b 3 = nI (cP C) := by rw [hf.at (by omega)]; exact h3
    have hle : (nI (cP C) ≤ nI i) = (cP C ≤ i) := nI_le_iff (by omega) (by omega)
    unfold fX0_take_L34_body
    simp only [chk_t a1, e4, hle, if_neg (Nat.not_le.mpr hi), a2, ob_s, chk_t a5, a6, chk_t p1, p2, p3, chk_t b1, b2, chk_t b5, b6, q3, chk_t p4]
    have eg : pA b i = b + 4 + 2 * i := rfl
    have ek : pA c i = c + 4 + 2 * i := rfl
    refine Wp_c (X4_take (hcv.2.1 i (by omega)).2 (hkv.2.1 i (by omega)).2 (show IsP v (c + 4 + 2 * i) (cWl C i) (cOw C i) from hxv.2.1 i hi) (by omega)) (fun u hu => ?_)
    rw [Wp_l]
    refine ⟨nI_1 i, hf.trans (hu.1.mono (fun x j q => ⟨by omega, by omega⟩)), fun g hg => ?_⟩
    by_cases e : g = i
    · subst e
      exact hu.2
    · exact (hv g (by omega)).fr hu.1 (fun x j q => by
        have el : pA b g = b + 4 + 2 * g := rfl
        omega)
  · obtain ⟨hf, hv⟩ := hv
    have hcv := hf.cl hc
    have hkv := hf.cl hk
    have hxv := hx.fr hI hf (fun a i q => by omega)
    obtain ⟨a1, -⟩ := hcv.B
    have e3 : wI v b 3 = nI (cP C) := by rw [hf.at (by omega)]; exact h3
    have e4 : wI v b 4 = nI (cG C) := by rw [hf.at (by omega)]; exact h4
    have hle : (nI (cP C) ≤ nI (cP C)) = (cP C ≤ cP C) := nI_le_iff (by omega) (by omega)
    unfold fX0_take_L34_body
    simp only [chk_t a1, e3, hle, Nat.le_refl, if_true]
    refine Wp_wr (Wp_m (X0_takeG hcv hkv hxv hI hd e4) (fun u hu => ⟨(hf.mono (fun a i q => ⟨by omega, by omega⟩)).trans (hu.1.mono (fun a i q => ⟨by omega, by omega⟩)), fun p hp => (hv p hp).fr hu.1 (fun x j q => ?_), hu.2⟩))
    have el : pA b p = b + 4 + 2 * p := rfl
    omega
theorem X0_takeT {w : Wd} {b c : Nat} {C : Cl} (hc : ClS w b) (hk : ClS w c) (hx : IsX w c C) (hI : CI C) (hd : b + 40 ≤ c ∨ c + 40 ≤ b) (h3 : wI w b 3 = nI (cP C)) (h4 : wI w b 4 = nI (cG C)) (h5 : wI w b 5 = cSd C) (h6 : wI w b 6 = cDy C) : Wp (fX0_take_L34 b c (0, w)) (fun w' => Fr (cCl b) w w' ∧ IsX w' b C) := by
  refine Wp_m (X0_takeP hc hk hx hI hd h3 h4) (fun u hu => ?_)
  obtain ⟨hf, hp, hg⟩ := hu
  refine ⟨hf.mono (fun a i q => ⟨by omega, by omega⟩), ⟨?_, ?_, ?_, ?_⟩, hp, hg⟩
  · rw [hf.at (by omega)]; exact h3
  · rw [hf.at (by omega)]; exact h4
  · rw [hf.at (by omega)]; exact h5
  · rw [hf.at (by omega)]; exact h6
theorem X0_take {w : Wd} {b c : Nat} {C : Cl} (hc : ClS w b) (hk : ClS w c) (hx : IsX w c C) (hI : CI C) (hd : b + 40 ≤ c ∨ c + 40 ≤ b) : Wp (fX0_take b c w) (fun w' => Fr (cCl b) w w' ∧ IsX w' b C) := by
  obtain ⟨a1, -⟩ := hc.B
  obtain ⟨b1, -⟩ := hk.B
  have hne : ∀ (u : Wd) (i : Nat) (x : Int32), wI (sI u b i x) c = wI u c := fun u i x => wI_ne (by omega)
  have hf0 : Fr (fun x _ => x = b) w (sI (sI (sI (sI w b 3 (nI (cP C))) b 4 (nI (cG C))) b 5 (cSd C)) b 6 (cDy C)) := by
    have f1 : Fr (fun x _ => x = b) w (sI w b 3 (nI (cP C))) := Fr_sI _ rfl
    have f2 := f1.sI (a := b) (i := 4) (nI (cG C)) rfl
    have f3 := f2.sI (a := b) (i := 5) (cSd C) rfl
    exact f3.sI (a := b) (i := 6) (cDy C) rfl
  have v3 : wI (sI (sI (sI (sI w b 3 (nI (cP C))) b 4 (nI (cG C))) b 5 (cSd C)) b 6 (cDy C)) b 3 = nI (cP C) := by rw [wI_n (by omega), wI_n (by omega), wI_n (by omega), wI_e]
  have v4 : wI (sI (sI (sI (sI w b 3 (nI (cP C))) b 4 (nI (cG C))) b 5 (cSd C)) b 6 (cDy C)) b 4 = nI (cG C) := by rw [wI_n (by omega), wI_n (by omega), wI_e]
  have v5 : wI (sI (sI (sI (sI w b 3 (nI (cP C))) b 4 (nI (cG C))) b 5 (cSd C)) b 6 (cDy C)) b 5 = cSd C := by rw [wI_n (by omega), wI_e]
  have v6 : wI (sI (sI (sI (sI w b 3 (nI (cP C))) b 4 (nI (cG C))) b 5 (cSd C)) b 6 (cDy C)) b 6 = cDy C := wI_e _ _ _ _
  unfold fX0_take
  simp only [chk_t a1, chk_t b1, bnd_e, cO_s, hne, hx.1.1, hx.1.2.1, hx.1.2.2.1, hx.1.2.2.2]
  generalize sI (sI (sI (sI w b 3 (nI (cP C))) b 4 (nI (cG C))) b 5 (cSd C)) b 6 (cDy C) = v at *
  have hk2 := hf0.cl hk
  have hx2 := hx.fr hI hf0 (fun a i q => by omega)
  refine Wp_m (X0_takeT (hf0.cl hc) hk2 hx2 hI hd v3 v4 v5 v6) (fun u hu => ⟨(hf0.mono (fun a i q => ?_)).trans hu.1, hu.2⟩)
  have q' : a = b := q
  exact ⟨by omega, by omega⟩
