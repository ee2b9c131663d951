/-! keeping in the model -/
def Kp (f : Nat → Int32) (w : Wd) : Prop := (∀ i, i < 8 → f i = wI w 6 i ∧ f (8 + i) = wI w 7 i ∧ f (16 + i) = wI w 8 i) ∧ (∀ i, i < 96 → f (24 + i) = wI w 9 i ∧ f (120 + i) = wI w 10 i) ∧ (∀ i, i < 72 → f (216 + i) = wI w 5 i) ∧ (∀ i, i < 6 → f (288 + i) = wI w 4 i) ∧ f 294 = wI w 0 3 ∧ f 295 = wI w 0 6 ∧ f 296 = wI w 0 12 ∧ f 297 = wI w 0 13
theorem Kp.isM {f : Nat → Int32} {v w : Wd} {C : Cl} (hv : Kp f v) (hw : Kp f w) (hI : CI C) (hx : IsM v C) : IsM w C := by
  have h6 : cP C ≤ 6 := hI.1.1
  have h8 : cG C ≤ 8 := hI.1.2
  obtain ⟨v1, v2, v3, v4, v5, v6, v7, v8⟩ := hv
  obtain ⟨w1, w2, w3, w4, w5, w6, w7, w8⟩ := hw
  refine ⟨⟨?_, ?_, ?_, ?_⟩, fun q hq => ?_, fun j hj => ?_⟩
  · rw [← w5, v5]; exact hx.1.1
  · rw [← w6, v6]; exact hx.1.2.1
  · rw [← w8, v8]; exact hx.1.2.2.1
  · rw [← w7, v7]; exact hx.1.2.2.2
  · obtain ⟨h1, h2⟩ := hx.2.1 q hq
    refine ⟨?_, fun i hi => ?_⟩
    · rw [← w4 q (by omega), v4 q (by omega)]; exact h1
    · rw [← w3 (12 * q + i) (by omega), v3 (12 * q + i) (by omega)]; exact h2 i hi
  · obtain ⟨⟨h1, h2, h3⟩, h4⟩ := hx.2.2 j hj
    refine ⟨⟨?_, ?_, ?_⟩, fun i hi => ⟨?_, ?_⟩⟩
    · rw [← (w1 j (by omega)).1, (v1 j (by omega)).1]; exact h1
    · rw [← (w1 j (by omega)).2.1, (v1 j (by omega)).2.1]; exact h2
    · rw [← (w1 j (by omega)).2.2, (v1 j (by omega)).2.2]; exact h3
    · rw [← (w2 (12 * j + i) (by omega)).1, (v2 (12 * j + i) (by omega)).1]; exact (h4 i hi).1
    · rw [← (w2 (12 * j + i) (by omega)).2, (v2 (12 * j + i) (by omega)).2]; exact (h4 i hi).2
theorem adL8 (k : Nat) : (8 : Int32) + nI k = nI (8 + k) := nI_add 8 k
theorem adL16 (k : Nat) : (16 : Int32) + nI k = nI (16 + k) := nI_add 16 k
theorem adL24 (k : Nat) : (24 : Int32) + nI k = nI (24 + k) := nI_add 24 k
theorem adL120 (k : Nat) : (120 : Int32) + nI k = nI (120 + k) := nI_add 120 k
theorem adL216 (k : Nat) : (216 : Int32) + nI k = nI (216 + k) := nI_add 216 k
theorem adL288 (k : Nat) : (288 : Int32) + nI k = nI (288 + k) := nI_add 288 k
theorem tN294 : (294 : Int32).toNatClampNeg = 294 := by decide
theorem ib294 : inb (294 : Int32) 298 := by decide
theorem tN295 : (295 : Int32).toNatClampNeg = 295 := by decide
theorem ib295 : inb (295 : Int32) 298 := by decide
theorem tN296 : (296 : Int32).toNatClampNeg = 296 := by decide
theorem ib296 : inb (296 : Int32) 298 := by decide
theorem tN297 : (297 : Int32).toNatClampNeg = 297 := by decide
theorem ib297 : inb (297 : Int32) 298 := by decide
theorem X8_keep114 {w : Wd} (hc : ShM w) {t : Nat} (ht : 12 < t) (ha : isA w t 0) (hn : wn w t = 298) : Wp (fX8_keep_L114 0 t (0, w)) (fun v => Fr (fun x i => x = t ∧ 288 ≤ i) w v ∧ (∀ i, i < 6 → wI v t (288 + i) = wI w 4 i) ∧ wI v t 294 = wI w 0 3 ∧ wI v t 295 = wI w 0 6 ∧ wI v t 296 = wI w 0 12 ∧ wI v t 297 = wI w 0 13) := by
  unfold fX8_keep_L114
  refine it_w1 (fun j v => Fr (fun x i => x = t ∧ 288 ≤ i ∧ i < 294) w v ∧ (∀ i, i < j → wI v t (288 + i) = wI w 4 i)) 6 (by decide) ⟨Fr.refl w, fun i q => absurd q (Nat.not_lt_zero i)⟩ (fun j v hj hv => ?_) (fun v hv => ?_)
  · obtain ⟨hf, hv⟩ := hv
    have hs := hf.shm hc
    have a0 := hs.O
    obtain ⟨x4, y4, z4⟩ := hs.a4
    have ht2 : isA v t 0 ∧ wn v t = 298 := by rw [hf.eq]; exact ⟨ha, hn⟩
    obtain ⟨ta, tn⟩ := ht2
    have m1 : inb (nI j) 6 := inb_nI hj (by decide)
    have m2 : (nI j).toNatClampNeg = j := nI_clamp (by omega)
    have p4 : inb (nI (288 + j)) 298 := inb_nI (by omega) (by decide)
    have q4 : (nI (288 + j)).toNatClampNeg = 288 + j := nI_clamp (by omega)
    have e4 : ∀ (u : Wd) (i : Nat) (x : Int32), wI (sI u t i x) 4 = wI u 4 := fun u i x => wI_ne (by omega)
    have f4 : ∀ i, wI v 4 i = wI w 4 i := fun i => hf.at (by omega)
    unfold fX8_keep_L114_body
    simp only [leL6 (show j < 2147483648 by omega), if_neg (Nat.not_le.mpr hj), chk_t a0, ob_s, chk_t ta, tn, chk_t m1, m2, bnd_e, cO_s, cA_s, wR_sI, wn_sI, x4, chk_t y4, z4, chk_t p4, e4, q4, adL288, f4, Wp_l]
    refine ⟨nI_1 j, (hf.sI _ (by omega)), fun i hi => ?_⟩
    · by_cases e : i = j
      · subst e
        rw [wI_e]
      · rw [wI_n (by omega)]
        exact (hv i (by omega))
  · obtain ⟨hf, hv⟩ := hv
    have hs := hf.shm hc
    have ht2 : isA v t 0 ∧ wn v t = 298 := by rw [hf.eq]; exact ⟨ha, hn⟩
    obtain ⟨ta, tn⟩ := ht2
    unfold fX8_keep_L114_body
    rw [if_pos (show (6 : Int32) ≤ nI 6 by decide)]
    have a0 := hs.O
    have e0 : ∀ (u : Wd) (i : Nat) (x : Int32), wI (sI u t i x) 0 = wI u 0 := fun u i x => wI_ne (by omega)
    have f0 : ∀ i, wI v 0 i = wI w 0 i := fun i => hf.at (by omega)
    simp only [chk_t a0, chk_t ta, tn, bnd_e, cO_s, cA_s, wn_sI, e0, f0, chk_t ib294, tN294, chk_t ib295, tN295, chk_t ib296, tN296, chk_t ib297, tN297]
    refine Wp_wr (Wp_of rfl ⟨((((hf.mono (fun a i q => by omega)).sI _ (by omega)).sI _ (by omega)).sI _ (by omega)).sI _ (by omega), fun i hi => ?_, ?_, ?_, ?_, ?_⟩)
    · rw [wI_n (by omega), wI_n (by omega), wI_n (by omega), wI_n (by omega)]; exact hv i hi
    · rw [wI_n (by omega), wI_n (by omega), wI_n (by omega), wI_e]
    · rw [wI_n (by omega), wI_n (by omega), wI_e]
    · rw [wI_n (by omega), wI_e]
    · rw [wI_e]
theorem X8_keep87 {w : Wd} (hc : ShM w) {t : Nat} (ht : 12 < t) (ha : isA w t 0) (hn : wn w t = 298) : Wp (fX8_keep_L87 0 t (0, w)) (fun v => Fr (fun x i => x = t ∧ 216 ≤ i) w v ∧ (∀ i, i < 72 → wI v t (216 + i) = wI w 5 i) ∧ (∀ i, i < 6 → wI v t (288 + i) = wI w 4 i) ∧ wI v t 294 = wI w 0 3 ∧ wI v t 295 = wI w 0 6 ∧ wI v t 296 = wI w 0 12 ∧ wI v t 297 = wI w 0 13) := by
  unfold fX8_keep_L87
  refine it_w1 (fun j v => Fr (fun x i => x = t ∧ 216 ≤ i ∧ i < 288) w v ∧ (∀ i, i < j → wI v t (216 + i) = wI w 5 i)) 72 (by decide) ⟨Fr.refl w, fun i q => absurd q (Nat.not_lt_zero i)⟩ (fun j v hj hv => ?_) (fun v hv => ?_)
  · obtain ⟨hf, hv⟩ := hv
    have hs := hf.shm hc
    have a0 := hs.O
    obtain ⟨x5, y5, z5⟩ := hs.a5
    have ht2 : isA v t 0 ∧ wn v t = 298 := by rw [hf.eq]; exact ⟨ha, hn⟩
    obtain ⟨ta, tn⟩ := ht2
    have m1 : inb (nI j) 72 := inb_nI hj (by decide)
    have m2 : (nI j).toNatClampNeg = j := nI_clamp (by omega)
    have p5 : inb (nI (216 + j)) 298 := inb_nI (by omega) (by decide)
    have q5 : (nI (216 + j)).toNatClampNeg = 216 + j := nI_clamp (by omega)
    have e5 : ∀ (u : Wd) (i : Nat) (x : Int32), wI (sI u t i x) 5 = wI u 5 := fun u i x => wI_ne (by omega)
    have f5 : ∀ i, wI v 5 i = wI w 5 i := fun i => hf.at (by omega)
    unfold fX8_keep_L87_body
    simp only [leL72 (show j < 2147483648 by omega), if_neg (Nat.not_le.mpr hj), chk_t a0, ob_s, chk_t ta, tn, chk_t m1, m2, bnd_e, cO_s, cA_s, wR_sI, wn_sI, x5, chk_t y5, z5, chk_t p5, e5, q5, adL216, f5, Wp_l]
    refine ⟨nI_1 j, (hf.sI _ (by omega)), fun i hi => ?_⟩
    · by_cases e : i = j
      · subst e
        rw [wI_e]
      · rw [wI_n (by omega)]
        exact (hv i (by omega))
  · obtain ⟨hf, hv⟩ := hv
    have hs := hf.shm hc
    have ht2 : isA v t 0 ∧ wn v t = 298 := by rw [hf.eq]; exact ⟨ha, hn⟩
    obtain ⟨ta, tn⟩ := ht2
    unfold fX8_keep_L87_body
    rw [if_pos (show (72 : Int32) ≤ nI 72 by decide)]
    refine Wp_wr (Wp_m (X8_keep114 hs ht ta tn) (fun u hu => ?_))
    obtain ⟨hg, h0, i1, i2, i3, i4⟩ := hu
    refine ⟨(hf.mono (fun a i q => by omega)).trans (hg.mono (fun a i q => by omega)), fun i hi => ?_, fun i hi => ?_, ?_, ?_, ?_, ?_⟩
    · rw [hg.at (by omega)]; exact (hv i hi)
    · rw [(h0 i hi), hf.at (by omega)]
    · rw [i1, hf.at (by omega)]
    · rw [i2, hf.at (by omega)]
    · rw [i3, hf.at (by omega)]
    · rw [i4, hf.at (by omega)]
theorem X8_keep49 {w : Wd} (hc : ShM w) {t : Nat} (ht : 12 < t) (ha : isA w t 0) (hn : wn w t = 298) : Wp (fX8_keep_L49 0 t (0, w)) (fun v => Fr (fun x i => x = t ∧ 24 ≤ i) w v ∧ (∀ i, i < 96 → wI v t (24 + i) = wI w 9 i ∧ wI v t (120 + i) = wI w 10 i) ∧ (∀ i, i < 72 → wI v t (216 + i) = wI w 5 i) ∧ (∀ i, i < 6 → wI v t (288 + i) = wI w 4 i) ∧ wI v t 294 = wI w 0 3 ∧ wI v t 295 = wI w 0 6 ∧ wI v t 296 = wI w 0 12 ∧ wI v t 297 = wI w 0 13) := by
  unfold fX8_keep_L49
  refine it_w1 (fun j v => Fr (fun x i => x = t ∧ 24 ≤ i ∧ i < 216) w v ∧ (∀ i, i < j → wI v t (24 + i) = wI w 9 i ∧ wI v t (120 + i) = wI w 10 i)) 96 (by decide) ⟨Fr.refl w, fun i q => absurd q (Nat.not_lt_zero i)⟩ (fun j v hj hv => ?_) (fun v hv => ?_)
  · obtain ⟨hf, hv⟩ := hv
    have hs := hf.shm hc
    have a0 := hs.O
    obtain ⟨x9, y9, z9⟩ := hs.a9
    obtain ⟨x10, y10, z10⟩ := hs.a10
    have ht2 : isA v t 0 ∧ wn v t = 298 := by rw [hf.eq]; exact ⟨ha, hn⟩
    obtain ⟨ta, tn⟩ := ht2
    have m1 : inb (nI j) 96 := inb_nI hj (by decide)
    have m2 : (nI j).toNatClampNeg = j := nI_clamp (by omega)
    have p9 : inb (nI (24 + j)) 298 := inb_nI (by omega) (by decide)
    have q9 : (nI (24 + j)).toNatClampNeg = 24 + j := nI_clamp (by omega)
    have p10 : inb (nI (120 + j)) 298 := inb_nI (by omega) (by decide)
    have q10 : (nI (120 + j)).toNatClampNeg = 120 + j := nI_clamp (by omega)
    have e9 : ∀ (u : Wd) (i : Nat) (x : Int32), wI (sI u t i x) 9 = wI u 9 := fun u i x => wI_ne (by omega)
    have f9 : ∀ i, wI v 9 i = wI w 9 i := fun i => hf.at (by omega)
    have e10 : ∀ (u : Wd) (i : Nat) (x : Int32), wI (sI u t i x) 10 = wI u 10 := fun u i x => wI_ne (by omega)
    have f10 : ∀ i, wI v 10 i = wI w 10 i := fun i => hf.at (by omega)
    unfold fX8_keep_L49_body
    simp only [leL96 (show j < 2147483648 by omega), if_neg (Nat.not_le.mpr hj), chk_t a0, ob_s, chk_t ta, tn, chk_t m1, m2, bnd_e, cO_s, cA_s, wR_sI, wn_sI, x9, chk_t y9, z9, chk_t p9, e9, q9, adL24, f9, x10, chk_t y10, z10, chk_t p10, e10, q10, adL120, f10, Wp_l]
    refine ⟨nI_1 j, ((hf.sI _ (by omega)).sI _ (by omega)), fun i hi => ⟨?_, ?_⟩⟩
    · by_cases e : i = j
      · subst e
        rw [wI_n (by omega), wI_e]
      · rw [wI_n (by omega), wI_n (by omega)]
        exact (hv i (by omega)).1
    · by_cases e : i = j
      · subst e
        rw [wI_e]
      · rw [wI_n (by omega), wI_n (by omega)]
        exact (hv i (by omega)).2
  · obtain ⟨hf, hv⟩ := hv
    have hs := hf.shm hc
    have ht2 : isA v t 0 ∧ wn v t = 298 := by rw [hf.eq]; exact ⟨ha, hn⟩
    obtain ⟨ta, tn⟩ := ht2
    unfold fX8_keep_L49_body
    rw [if_pos (show (96 : Int32) ≤ nI 96 by decide)]
    refine Wp_wr (Wp_m (X8_keep87 hs ht ta tn) (fun u hu => ?_))
    obtain ⟨hg, h0, h1, i1, i2, i3, i4⟩ := hu
    refine ⟨(hf.mono (fun a i q => by omega)).trans (hg.mono (fun a i q => by omega)), fun i hi => ⟨?_, ?_⟩, fun i hi => ?_, fun i hi => ?_, ?_, ?_, ?_, ?_⟩
    · rw [hg.at (by omega)]; exact (hv i hi).1
    · rw [hg.at (by omega)]; exact (hv i hi).2
    · rw [(h0 i hi), hf.at (by omega)]
    · rw [(h1 i hi), hf.at (by omega)]
    · rw [i1, hf.at (by omega)]
    · rw [i2, hf.at (by omega)]
    · rw [i3, hf.at (by omega)]
    · rw [i4, hf.at (by omega)]
theorem X8_keep2 {w : Wd} (hc : ShM w) {t : Nat} (ht : 12 < t) (ha : isA w t 0) (hn : wn w t = 298) : Wp (fX8_keep_L2 0 t (0, w)) (fun v => Fr (fun x i => x = t ∧ 0 ≤ i) w v ∧ (∀ i, i < 8 → wI v t (i) = wI w 6 i ∧ wI v t (8 + i) = wI w 7 i ∧ wI v t (16 + i) = wI w 8 i) ∧ (∀ i, i < 96 → wI v t (24 + i) = wI w 9 i ∧ wI v t (120 + i) = wI w 10 i) ∧ (∀ i, i < 72 → wI v t (216 + i) = wI w 5 i) ∧ (∀ i, i < 6 → wI v t (288 + i) = wI w 4 i) ∧ wI v t 294 = wI w 0 3 ∧ wI v t 295 = wI w 0 6 ∧ wI v t 296 = wI w 0 12 ∧ wI v t 297 = wI w 0 13) := by
  unfold fX8_keep_L2
  refine it_w1 (fun j v => Fr (fun x i => x = t ∧ 0 ≤ i ∧ i < 24) w v ∧ (∀ i, i < j → wI v t (i) = wI w 6 i ∧ wI v t (8 + i) = wI w 7 i ∧ wI v t (16 + i) = wI w 8 i)) 8 (by decide) ⟨Fr.refl w, fun i q => absurd q (Nat.not_lt_zero i)⟩ (fun j v hj hv => ?_) (fun v hv => ?_)
  · obtain ⟨hf, hv⟩ := hv
    have hs := hf.shm hc
    have a0 := hs.O
    obtain ⟨x6, y6, z6⟩ := hs.a6
    obtain ⟨x7, y7, z7⟩ := hs.a7
    obtain ⟨x8, y8, z8⟩ := hs.a8
    have ht2 : isA v t 0 ∧ wn v t = 298 := by rw [hf.eq]; exact ⟨ha, hn⟩
    obtain ⟨ta, tn⟩ := ht2
    have m1 : inb (nI j) 8 := inb_nI hj (by decide)
    have m2 : (nI j).toNatClampNeg = j := nI_clamp (by omega)
    have p6 : inb (nI j) 298 := inb_nI (by omega) (by decide)
    have p7 : inb (nI (8 + j)) 298 := inb_nI (by omega) (by decide)
    have q7 : (nI (8 + j)).toNatClampNeg = 8 + j := nI_clamp (by omega)
    have p8 : inb (nI (16 + j)) 298 := inb_nI (by omega) (by decide)
    have q8 : (nI (16 + j)).toNatClampNeg = 16 + j := nI_clamp (by omega)
    have e6 : ∀ (u : Wd) (i : Nat) (x : Int32), wI (sI u t i x) 6 = wI u 6 := fun u i x => wI_ne (by omega)
    have f6 : ∀ i, wI v 6 i = wI w 6 i := fun i => hf.at (by omega)
    have e7 : ∀ (u : Wd) (i : Nat) (x : Int32), wI (sI u t i x) 7 = wI u 7 := fun u i x => wI_ne (by omega)
    have f7 : ∀ i, wI v 7 i = wI w 7 i := fun i => hf.at (by omega)
    have e8 : ∀ (u : Wd) (i : Nat) (x : Int32), wI (sI u t i x) 8 = wI u 8 := fun u i x => wI_ne (by omega)
    have f8 : ∀ i, wI v 8 i = wI w 8 i := fun i => hf.at (by omega)
    unfold fX8_keep_L2_body
    simp only [leL8 (show j < 2147483648 by omega), if_neg (Nat.not_le.mpr hj), chk_t a0, ob_s, chk_t ta, tn, chk_t m1, m2, bnd_e, cO_s, cA_s, wR_sI, wn_sI, x6, chk_t y6, z6, chk_t p6, e6, f6, x7, chk_t y7, z7, chk_t p7, e7, q7, adL8, f7, x8, chk_t y8, z8, chk_t p8, e8, q8, adL16, f8, Wp_l]
    refine ⟨nI_1 j, (((hf.sI _ (by omega)).sI _ (by omega)).sI _ (by omega)), fun i hi => ⟨?_, ?_, ?_⟩⟩
    · by_cases e : i = j
      · subst e
        rw [wI_n (by omega), wI_n (by omega), wI_e]
      · rw [wI_n (by omega), wI_n (by omega), wI_n (by omega)]
        exact (hv i (by omega)).1
    · by_cases e : i = j
      · subst e
        rw [wI_n (by omega), wI_e]
      · rw [wI_n (by omega), wI_n (by omega), wI_n (by omega)]
        exact (hv i (by omega)).2.1
    · by_cases e : i = j
      · subst e
        rw [wI_e]
      · rw [wI_n (by omega), wI_n (by omega), wI_n (by omega)]
        exact (hv i (by omega)).2.2
  · obtain ⟨hf, hv⟩ := hv
    have hs := hf.shm hc
    have ht2 : isA v t 0 ∧ wn v t = 298 := by rw [hf.eq]; exact ⟨ha, hn⟩
    obtain ⟨ta, tn⟩ := ht2
    unfold fX8_keep_L2_body
    rw [if_pos (show (8 : Int32) ≤ nI 8 by decide)]
    refine Wp_wr (Wp_m (X8_keep49 hs ht ta tn) (fun u hu => ?_))
    obtain ⟨hg, h0, h1, h2, i1, i2, i3, i4⟩ := hu
    refine ⟨(hf.mono (fun a i q => by omega)).trans (hg.mono (fun a i q => by omega)), fun i hi => ⟨?_, ?_, ?_⟩, fun i hi => ⟨?_, ?_⟩, fun i hi => ?_, fun i hi => ?_, ?_, ?_, ?_, ?_⟩
    · rw [hg.at (by omega)]; exact (hv i hi).1
    · rw [hg.at (by omega)]; exact (hv i hi).2.1
    · rw [hg.at (by omega)]; exact (hv i hi).2.2
    · rw [(h0 i hi).1, hf.at (by omega)]
    · rw [(h0 i hi).2, hf.at (by omega)]
    · rw [(h1 i hi), hf.at (by omega)]
    · rw [(h2 i hi), hf.at (by omega)]
    · rw [i1, hf.at (by omega)]
    · rw [i2, hf.at (by omega)]
    · rw [i3, hf.at (by omega)]
    · rw [i4, hf.at (by omega)]
/-! and back -/
theorem X8_again114 {w : Wd} (hc : ShM w) {t : Nat} (ht : 12 < t) (ha : isA w t 0) (hn : wn w t = 298) : Wp (fX8_again_L114 0 t (0, w)) (fun v => Fr (fun x i => x = 4 ∨ (x = 0 ∧ (i = 3 ∨ i = 6 ∨ i = 12 ∨ i = 13))) w v ∧ (∀ i, i < 6 → wI v 4 i = wI w t (288 + i)) ∧ wI v 0 3 = wI w t 294 ∧ wI v 0 6 = wI w t 295 ∧ wI v 0 12 = wI w t 296 ∧ wI v 0 13 = wI w t 297) := by
  unfold fX8_again_L114
  refine it_w1 (fun j v => Fr (fun x i => x = 4) w v ∧ (∀ i, i < j → wI v 4 i = wI w t (288 + i))) 6 (by decide) ⟨Fr.refl w, fun i q => absurd q (Nat.not_lt_zero i)⟩ (fun j v hj hv => ?_) (fun v hv => ?_)
  · obtain ⟨hf, hv⟩ := hv
    have hs := hf.shm hc
    have a0 := hs.O
    obtain ⟨x4, y4, z4⟩ := hs.a4
    have ht2 : isA v t 0 ∧ wn v t = 298 := by rw [hf.eq]; exact ⟨ha, hn⟩
    obtain ⟨ta, tn⟩ := ht2
    have m1 : inb (nI j) 6 := inb_nI hj (by decide)
    have m2 : (nI j).toNatClampNeg = j := nI_clamp (by omega)
    have p4 : inb (nI (288 + j)) 298 := inb_nI (by omega) (by decide)
    have q4 : (nI (288 + j)).toNatClampNeg = 288 + j := nI_clamp (by omega)
    have e4 : ∀ (u : Wd) (i : Nat) (x : Int32), wI (sI u 4 i x) t = wI u t := fun u i x => wI_ne (by omega)
    have ft : ∀ i, wI v t i = wI w t i := fun i => hf.at (by omega)
    unfold fX8_again_L114_body
    simp only [leL6 (show j < 2147483648 by omega), if_neg (Nat.not_le.mpr hj), chk_t a0, ob_s, chk_t ta, tn, chk_t m1, m2, bnd_e, cO_s, cA_s, wR_sI, wn_sI, x4, chk_t y4, z4, chk_t p4, e4, q4, adL288, ft, Wp_l]
    refine ⟨nI_1 j, (hf.sI _ (by omega)), fun i hi => ?_⟩
    · by_cases e : i = j
      · subst e
        rw [wI_e]
      · rw [wI_n (by omega)]
        exact (hv i (by omega))
  · obtain ⟨hf, hv⟩ := hv
    have hs := hf.shm hc
    have ht2 : isA v t 0 ∧ wn v t = 298 := by rw [hf.eq]; exact ⟨ha, hn⟩
    obtain ⟨ta, tn⟩ := ht2
    unfold fX8_again_L114_body
    rw [if_pos (show (6 : Int32) ≤ nI 6 by decide)]
    have a0 := hs.O
    have e0 : ∀ (u : Wd) (i : Nat) (x : Int32), wI (sI u 0 i x) t = wI u t := fun u i x => wI_ne (by omega)
    have f0 : ∀ i, wI v t i = wI w t i := fun i => hf.at (by omega)
    simp only [chk_t a0, chk_t ta, tn, bnd_e, cO_s, cA_s, wn_sI, e0, f0, chk_t ib294, tN294, chk_t ib295, tN295, chk_t ib296, tN296, chk_t ib297, tN297]
    refine Wp_wr (Wp_of rfl ⟨((((hf.mono (fun a i q => by omega)).sI _ (by omega)).sI _ (by omega)).sI _ (by omega)).sI _ (by omega), fun i hi => ?_, ?_, ?_, ?_, ?_⟩)
    · rw [wI_n (by omega), wI_n (by omega), wI_n (by omega), wI_n (by omega)]; exact hv i hi
    · rw [wI_n (by omega), wI_n (by omega), wI_n (by omega), wI_e]
    · rw [wI_n (by omega), wI_n (by omega), wI_e]
    · rw [wI_n (by omega), wI_e]
    · rw [wI_e]
theorem X8_again87 {w : Wd} (hc : ShM w) {t : Nat} (ht : 12 < t) (ha : isA w t 0) (hn : wn w t = 298) : Wp (fX8_again_L87 0 t (0, w)) (fun v => Fr (fun x i => x = 4 ∨ x = 5 ∨ (x = 0 ∧ (i = 3 ∨ i = 6 ∨ i = 12 ∨ i = 13))) w v ∧ (∀ i, i < 72 → wI v 5 i = wI w t (216 + i)) ∧ (∀ i, i < 6 → wI v 4 i = wI w t (288 + i)) ∧ wI v 0 3 = wI w t 294 ∧ wI v 0 6 = wI w t 295 ∧ wI v 0 12 = wI w t 296 ∧ wI v 0 13 = wI w t 297) := by
  unfold fX8_again_L87
  refine it_w1 (fun j v => Fr (fun x i => x = 5) w v ∧ (∀ i, i < j → wI v 5 i = wI w t (216 + i))) 72 (by decide) ⟨Fr.refl w, fun i q => absurd q (Nat.not_lt_zero i)⟩ (fun j v hj hv => ?_) (fun v hv => ?_)
  · obtain ⟨hf, hv⟩ := hv
    have hs := hf.shm hc
    have a0 := hs.O
    obtain ⟨x5, y5, z5⟩ := hs.a5
    have ht2 : isA v t 0 ∧ wn v t = 298 := by rw [hf.eq]; exact ⟨ha, hn⟩
    obtain ⟨ta, tn⟩ := ht2
    have m1 : inb (nI j) 72 := inb_nI hj (by decide)
    have m2 : (nI j).toNatClampNeg = j := nI_clamp (by omega)
    have p5 : inb (nI (216 + j)) 298 := inb_nI (by omega) (by decide)
    have q5 : (nI (216 + j)).toNatClampNeg = 216 + j := nI_clamp (by omega)
    have e5 : ∀ (u : Wd) (i : Nat) (x : Int32), wI (sI u 5 i x) t = wI u t := fun u i x => wI_ne (by omega)
    have ft : ∀ i, wI v t i = wI w t i := fun i => hf.at (by omega)
    unfold fX8_again_L87_body
    simp only [leL72 (show j < 2147483648 by omega), if_neg (Nat.not_le.mpr hj), chk_t a0, ob_s, chk_t ta, tn, chk_t m1, m2, bnd_e, cO_s, cA_s, wR_sI, wn_sI, x5, chk_t y5, z5, chk_t p5, e5, q5, adL216, ft, Wp_l]
    refine ⟨nI_1 j, (hf.sI _ (by omega)), fun i hi => ?_⟩
    · by_cases e : i = j
      · subst e
        rw [wI_e]
      · rw [wI_n (by omega)]
        exact (hv i (by omega))
  · obtain ⟨hf, hv⟩ := hv
    have hs := hf.shm hc
    have ht2 : isA v t 0 ∧ wn v t = 298 := by rw [hf.eq]; exact ⟨ha, hn⟩
    obtain ⟨ta, tn⟩ := ht2
    unfold fX8_again_L87_body
    rw [if_pos (show (72 : Int32) ≤ nI 72 by decide)]
    refine Wp_wr (Wp_m (X8_again114 hs ht ta tn) (fun u hu => ?_))
    obtain ⟨hg, h0, i1, i2, i3, i4⟩ := hu
    refine ⟨(hf.mono (fun a i q => by omega)).trans (hg.mono (fun a i q => by omega)), fun i hi => ?_, fun i hi => ?_, ?_, ?_, ?_, ?_⟩
    · rw [hg.at (by omega)]; exact (hv i hi)
    · rw [(h0 i hi), hf.at (by omega)]
    · rw [i1, hf.at (by omega)]
    · rw [i2, hf.at (by omega)]
    · rw [i3, hf.at (by omega)]
    · rw [i4, hf.at (by omega)]
theorem X8_again49 {w : Wd} (hc : ShM w) {t : Nat} (ht : 12 < t) (ha : isA w t 0) (hn : wn w t = 298) : Wp (fX8_again_L49 0 t (0, w)) (fun v => Fr (fun x i => x = 4 ∨ x = 5 ∨ x = 9 ∨ x = 10 ∨ (x = 0 ∧ (i = 3 ∨ i = 6 ∨ i = 12 ∨ i = 13))) w v ∧ (∀ i, i < 96 → wI v 9 i = wI w t (24 + i) ∧ wI v 10 i = wI w t (120 + i)) ∧ (∀ i, i < 72 → wI v 5 i = wI w t (216 + i)) ∧ (∀ i, i < 6 → wI v 4 i = wI w t (288 + i)) ∧ wI v 0 3 = wI w t 294 ∧ wI v 0 6 = wI w t 295 ∧ wI v 0 12 = wI w t 296 ∧ wI v 0 13 = wI w t 297) := by
  unfold fX8_again_L49
  refine it_w1 (fun j v => Fr (fun x i => x = 9 ∨ x = 10) w v ∧ (∀ i, i < j → wI v 9 i = wI w t (24 + i) ∧ wI v 10 i = wI w t (120 + i))) 96 (by decide) ⟨Fr.refl w, fun i q => absurd q (Nat.not_lt_zero i)⟩ (fun j v hj hv => ?_) (fun v hv => ?_)
  · obtain ⟨hf, hv⟩ := hv
    have hs := hf.shm hc
    have a0 := hs.O
    obtain ⟨x9, y9, z9⟩ := hs.a9
    obtain ⟨x10, y10, z10⟩ := hs.a10
    have ht2 : isA v t 0 ∧ wn v t = 298 := by rw [hf.eq]; exact ⟨ha, hn⟩
    obtain ⟨ta, tn⟩ := ht2
    have m1 : inb (nI j) 96 := inb_nI hj (by decide)
    have m2 : (nI j).toNatClampNeg = j := nI_clamp (by omega)
    have p9 : inb (nI (24 + j)) 298 := inb_nI (by omega) (by decide)
    have q9 : (nI (24 + j)).toNatClampNeg = 24 + j := nI_clamp (by omega)
    have p10 : inb (nI (120 + j)) 298 := inb_nI (by omega) (by decide)
    have q10 : (nI (120 + j)).toNatClampNeg = 120 + j := nI_clamp (by omega)
    have e9 : ∀ (u : Wd) (i : Nat) (x : Int32), wI (sI u 9 i x) t = wI u t := fun u i x => wI_ne (by omega)
    have e10 : ∀ (u : Wd) (i : Nat) (x : Int32), wI (sI u 10 i x) t = wI u t := fun u i x => wI_ne (by omega)
    have ft : ∀ i, wI v t i = wI w t i := fun i => hf.at (by omega)
    unfold fX8_again_L49_body
    simp only [leL96 (show j < 2147483648 by omega), if_neg (Nat.not_le.mpr hj), chk_t a0, ob_s, chk_t ta, tn, chk_t m1, m2, bnd_e, cO_s, cA_s, wR_sI, wn_sI, x9, chk_t y9, z9, chk_t p9, e9, q9, adL24, x10, chk_t y10, z10, chk_t p10, e10, q10, adL120, ft, Wp_l]
    refine ⟨nI_1 j, ((hf.sI _ (by omega)).sI _ (by omega)), fun i hi => ⟨?_, ?_⟩⟩
    · by_cases e : i = j
      · subst e
        rw [wI_n (by omega), wI_e]
      · rw [wI_n (by omega), wI_n (by omega)]
        exact (hv i (by omega)).1
    · by_cases e : i = j
      · subst e
        rw [wI_e]
      · rw [wI_n (by omega), wI_n (by omega)]
        exact (hv i (by omega)).2
  · obtain ⟨hf, hv⟩ := hv
    have hs := hf.shm hc
    have ht2 : isA v t 0 ∧ wn v t = 298 := by rw [hf.eq]; exact ⟨ha, hn⟩
    obtain ⟨ta, tn⟩ := ht2
    unfold fX8_again_L49_body
    rw [if_pos (show (96 : Int32) ≤ nI 96 by decide)]
    refine Wp_wr (Wp_m (X8_again87 hs ht ta tn) (fun u hu => ?_))
    obtain ⟨hg, h0, h1, i1, i2, i3, i4⟩ := hu
    refine ⟨(hf.mono (fun a i q => by omega)).trans (hg.mono (fun a i q => by omega)), fun i hi => ⟨?_, ?_⟩, fun i hi => ?_, fun i hi => ?_, ?_, ?_, ?_, ?_⟩
    · rw [hg.at (by omega)]; exact (hv i hi).1
    · rw [hg.at (by omega)]; exact (hv i hi).2
    · rw [(h0 i hi), hf.at (by omega)]
    · rw [(h1 i hi), hf.at (by omega)]
    · rw [i1, hf.at (by omega)]
    · rw [i2, hf.at (by omega)]
    · rw [i3, hf.at (by omega)]
    · rw [i4, hf.at (by omega)]
theorem X8_again2 {w : Wd} (hc : ShM w) {t : Nat} (ht : 12 < t) (ha : isA w t 0) (hn : wn w t = 298) : Wp (fX8_again_L2 0 t (0, w)) (fun v => Fr (fun x i => x = 4 ∨ x = 5 ∨ x = 9 ∨ x = 10 ∨ x = 6 ∨ x = 7 ∨ x = 8 ∨ (x = 0 ∧ (i = 3 ∨ i = 6 ∨ i = 12 ∨ i = 13))) w v ∧ (∀ i, i < 8 → wI v 6 i = wI w t (i) ∧ wI v 7 i = wI w t (8 + i) ∧ wI v 8 i = wI w t (16 + i)) ∧ (∀ i, i < 96 → wI v 9 i = wI w t (24 + i) ∧ wI v 10 i = wI w t (120 + i)) ∧ (∀ i, i < 72 → wI v 5 i = wI w t (216 + i)) ∧ (∀ i, i < 6 → wI v 4 i = wI w t (288 + i)) ∧ wI v 0 3 = wI w t 294 ∧ wI v 0 6 = wI w t 295 ∧ wI v 0 12 = wI w t 296 ∧ wI v 0 13 = wI w t 297) := by
  unfold fX8_again_L2
  refine it_w1 (fun j v => Fr (fun x i => x = 6 ∨ x = 7 ∨ x = 8) w v ∧ (∀ i, i < j → wI v 6 i = wI w t (i) ∧ wI v 7 i = wI w t (8 + i) ∧ wI v 8 i = wI w t (16 + i))) 8 (by decide) ⟨Fr.refl w, fun i q => absurd q (Nat.not_lt_zero i)⟩ (fun j v hj hv => ?_) (fun v hv => ?_)
  · obtain ⟨hf, hv⟩ := hv
    have hs := hf.shm hc
    have a0 := hs.O
    obtain ⟨x6, y6, z6⟩ := hs.a6
    obtain ⟨x7, y7, z7⟩ := hs.a7
    obtain ⟨x8, y8, z8⟩ := hs.a8
    have ht2 : isA v t 0 ∧ wn v t = 298 := by rw [hf.eq]; exact ⟨ha, hn⟩
    obtain ⟨ta, tn⟩ := ht2
    have m1 : inb (nI j) 8 := inb_nI hj (by decide)
    have m2 : (nI j).toNatClampNeg = j := nI_clamp (by omega)
    have p6 : inb (nI j) 298 := inb_nI (by omega) (by decide)
    have p7 : inb (nI (8 + j)) 298 := inb_nI (by omega) (by decide)
    have q7 : (nI (8 + j)).toNatClampNeg = 8 + j := nI_clamp (by omega)
    have p8 : inb (nI (16 + j)) 298 := inb_nI (by omega) (by decide)
    have q8 : (nI (16 + j)).toNatClampNeg = 16 + j := nI_clamp (by omega)
    have e6 : ∀ (u : Wd) (i : Nat) (x : Int32), wI (sI u 6 i x) t = wI u t := fun u i x => wI_ne (by omega)
    have e7 : ∀ (u : Wd) (i : Nat) (x : Int32), wI (sI u 7 i x) t = wI u t := fun u i x => wI_ne (by omega)
    have e8 : ∀ (u : Wd) (i : Nat) (x : Int32), wI (sI u 8 i x) t = wI u t := fun u i x => wI_ne (by omega)
    have ft : ∀ i, wI v t i = wI w t i := fun i => hf.at (by omega)
    unfold fX8_again_L2_body
    simp only [leL8 (show j < 2147483648 by omega), if_neg (Nat.not_le.mpr hj), chk_t a0, ob_s, chk_t ta, tn, chk_t m1, m2, bnd_e, cO_s, cA_s, wR_sI, wn_sI, x6, chk_t y6, z6, chk_t p6, e6, x7, chk_t y7, z7, chk_t p7, e7, q7, adL8, x8, chk_t y8, z8, chk_t p8, e8, q8, adL16, ft, Wp_l]
    refine ⟨nI_1 j, (((hf.sI _ (by omega)).sI _ (by omega)).sI _ (by omega)), fun i hi => ⟨?_, ?_, ?_⟩⟩
    · by_cases e : i = j
      · subst e
        rw [wI_n (by omega), wI_n (by omega), wI_e]
      · rw [wI_n (by omega), wI_n (by omega), wI_n (by omega)]
        exact (hv i (by omega)).1
    · by_cases e : i = j
      · subst e
        rw [wI_n (by omega), wI_e]
      · rw [wI_n (by omega), wI_n (by omega), wI_n (by omega)]
        exact (hv i (by omega)).2.1
    · by_cases e : i = j
      · subst e
        rw [wI_e]
      · rw [wI_n (by omega), wI_n (by omega), wI_n (by omega)]
        exact (hv i (by omega)).2.2
  · obtain ⟨hf, hv⟩ := hv
    have hs := hf.shm hc
    have ht2 : isA v t 0 ∧ wn v t = 298 := by rw [hf.eq]; exact ⟨ha, hn⟩
    obtain ⟨ta, tn⟩ := ht2
    unfold fX8_again_L2_body
    rw [if_pos (show (8 : Int32) ≤ nI 8 by decide)]
    refine Wp_wr (Wp_m (X8_again49 hs ht ta tn) (fun u hu => ?_))
    obtain ⟨hg, h0, h1, h2, i1, i2, i3, i4⟩ := hu
    refine ⟨(hf.mono (fun a i q => by omega)).trans (hg.mono (fun a i q => by omega)), fun i hi => ⟨?_, ?_, ?_⟩, fun i hi => ⟨?_, ?_⟩, fun i hi => ?_, fun i hi => ?_, ?_, ?_, ?_, ?_⟩
    · rw [hg.at (by omega)]; exact (hv i hi).1
    · rw [hg.at (by omega)]; exact (hv i hi).2.1
    · rw [hg.at (by omega)]; exact (hv i hi).2.2
    · rw [(h0 i hi).1, hf.at (by omega)]
    · rw [(h0 i hi).2, hf.at (by omega)]
    · rw [(h1 i hi), hf.at (by omega)]
    · rw [(h2 i hi), hf.at (by omega)]
    · rw [i1, hf.at (by omega)]
    · rw [i2, hf.at (by omega)]
    · rw [i3, hf.at (by omega)]
    · rw [i4, hf.at (by omega)]
theorem X8_keep {w : Wd} (hc : ShM w) {t : Nat} (ht : 12 < t) (ha : isA w t 0) (hn : wn w t = 298) : Wp (fX8_keep 0 t w) (fun v => Fr (fun x _ => x = t) w v ∧ Kp (wI v t) w) := by
  unfold fX8_keep
  refine Wp_m (X8_keep2 hc ht ha hn) (fun v hv => ⟨hv.1.mono (fun a i q => q.1), hv.2⟩)
def cM (x i : Nat) : Prop := (4 ≤ x ∧ x < 11) ∨ (x = 0 ∧ (i = 3 ∨ i = 6 ∨ i = 12 ∨ i = 13))
theorem X8_again {w : Wd} (hc : ShM w) {t : Nat} (ht : 12 < t) (ha : isA w t 0) (hn : wn w t = 298) : Wp (fX8_again 0 t w) (fun v => Fr cM w v ∧ Kp (wI w t) v) := by
  unfold fX8_again
  refine Wp_m (X8_again2 hc ht ha hn) (fun v hv => ⟨hv.1.mono (fun a i q => by unfold cM; omega), ?_⟩)
  obtain ⟨-, h1, h2, h3, h4, h5, h6, h7, h8⟩ := hv
  exact ⟨fun i hi => ⟨(h1 i hi).1.symm, (h1 i hi).2.1.symm, (h1 i hi).2.2.symm⟩, fun i hi => ⟨(h2 i hi).1.symm, (h2 i hi).2.symm⟩, fun i hi => (h3 i hi).symm, fun i hi => (h4 i hi).symm, h5.symm, h6.symm, h7.symm, h8.symm⟩
