/-! shelves: rows made, elements copied; the image-/
theorem IsX.ag {w w' : Wd} {b : Nat} {C : Cl} (hx : IsX w b C) (hI : CI C) (hf : ∀ a i, (a = b ∨ (b + 4 ≤ a ∧ a < b + 40)) → wI w' a i = wI w a i) : IsX w' b C := by
  have hP : cP C ≤ 6 := hI.1.1
  have hG : cG C ≤ 8 := hI.1.2
  refine ⟨⟨?_, ?_, ?_, ?_⟩, fun q hq => ?_, fun j hj => ?_⟩
  · rw [hf _ _ (Or.inl rfl)]; exact hx.1.1
  · rw [hf _ _ (Or.inl rfl)]; exact hx.1.2.1
  · rw [hf _ _ (Or.inl rfl)]; exact hx.1.2.2.1
  · rw [hf _ _ (Or.inl rfl)]; exact hx.1.2.2.2
  · obtain ⟨h1, h2⟩ := hx.2.1 q hq
    refine ⟨?_, fun i hi => ?_⟩
    · rw [hf _ _ (Or.inr (by unfold pA; omega))]; exact h1
    · rw [hf _ _ (Or.inr (by unfold pA; omega))]; exact h2 i hi
  · obtain ⟨⟨h1, h2, h3⟩, h4⟩ := hx.2.2 j hj
    refine ⟨⟨?_, ?_, ?_⟩, fun i hi => ⟨?_, ?_⟩⟩
    · rw [hf _ _ (Or.inr (by unfold gA; omega))]; exact h1
    · rw [hf _ _ (Or.inr (by unfold gA; omega))]; exact h2
    · rw [hf _ _ (Or.inr (by unfold gA; omega))]; exact h3
    · rw [hf _ _ (Or.inr (by unfold gA; omega))]; exact (h4 i hi).1
    · rw [hf _ _ (Or.inr (by unfold gA; omega))]; exact (h4 i hi).2
theorem IsM.ag {w w' : Wd} {C : Cl} (hx : IsM w C) (hf : ∀ a i, ((a = 0 ∧ (i = 3 ∨ i = 6 ∨ i = 12 ∨ i = 13)) ∨ (4 ≤ a ∧ a < 11)) → wI w' a i = wI w a i) : IsM w' C := by
  refine ⟨⟨?_, ?_, ?_, ?_⟩, fun q hq => ?_, fun j hj => ?_⟩
  · rw [hf _ _ (by omega)]; exact hx.1.1
  · rw [hf _ _ (by omega)]; exact hx.1.2.1
  · rw [hf _ _ (by omega)]; exact hx.1.2.2.1
  · rw [hf _ _ (by omega)]; exact hx.1.2.2.2
  · obtain ⟨h1, h2⟩ := hx.2.1 q hq
    refine ⟨?_, fun i hi => ?_⟩
    · rw [hf _ _ (by omega)]; exact h1
    · rw [hf _ _ (by omega)]; exact h2 i hi
  · obtain ⟨⟨h1, h2, h3⟩, h4⟩ := hx.2.2 j hj
    refine ⟨⟨?_, ?_, ?_⟩, fun i hi => ⟨?_, ?_⟩⟩
    · rw [hf _ _ (by omega)]; exact h1
    · rw [hf _ _ (by omega)]; exact h2
    · rw [hf _ _ (by omega)]; exact h3
    · rw [hf _ _ (by omega)]; exact (h4 i hi).1
    · rw [hf _ _ (by omega)]; exact (h4 i hi).2
/-- the same cells, of the same kinds, with the same references -/
def StE (w w' : Wd) : Prop := w'.1 = w.1 ∧ w'.2.1 = w.2.1 ∧ w'.2.2.2.2 = w.2.2.2.2
theorem StE.refl (w : Wd) : StE w w := ⟨rfl, rfl, rfl⟩
theorem StE.trans {a b c : Wd} (h : StE a b) (k : StE b c) : StE a c := ⟨k.1.trans h.1, k.2.1.trans h.2.1, k.2.2.trans h.2.2⟩
theorem StE.eq {w w' : Wd} (h : StE w w') : w' = (w.1, w.2.1, w'.2.2.1, w'.2.2.2.1, w.2.2.2.2) := by
  obtain ⟨h1, h2, h3⟩ := h
  obtain ⟨a, b, c, d, e⟩ := w'
  cases h1
  cases h2
  cases h3
  rfl
theorem StE.shx {w w' : Wd} (h : StE w w') (hs : ShX w) : ShX w' := by rw [h.eq]; exact hs
theorem StE.shm {w w' : Wd} (h : StE w w') (hs : ShM w) : ShM w' := by rw [h.eq]; exact hs
theorem Fr.st {S : Nat → Nat → Prop} {w w' : Wd} (h : Fr S w w') : StE w w' := ⟨h.1, h.2.1, congrArg Prod.snd h.2.2.1⟩
theorem StE_sL (w : Wd) (a i : Nat) (v : Int64) : StE w (sL w a i v) := ⟨rfl, rfl, rfl⟩
theorem RelC.shelf {C : Cl} {x m x' m' : Wd} (h : RelC C x m) (s : Nat) (hX : StE x x') (hM : StE m m') (hf : ∀ a i, ¬ (a = 135 + 2 * s ∧ (i = 1 ∨ i = 2)) → wI x' a i = wI x a i) (hg : ∀ a i, ¬ ((a = 1 ∨ a = 2) ∧ i = s) → wI m' a i = wI m a i) (hfL : ∀ a, a ≠ 136 + 2 * s → wL x' a = wL x a) (hgL : ∀ c, (c < 160 * s ∨ 160 * s + 160 ≤ c) → wL m' 3 c = wL m 3 c) (hE : ShE x' m' (cG C) s) : Rel x' m' := by
  obtain ⟨⟨r1, r2, r3, r4, r5⟩, r6, r7, r8, r9, r10⟩ := h
  refine ⟨C, ⟨hX.shx r1, hM.shm r2, r3, r4.ag r3 (fun a i q => hf a i (by omega)), r5.ag (fun a i q => hg a i (by omega))⟩, ?_, fun t h8 => ?_, fun i h1 h2 => ?_, ?_, ?_⟩
  · unfold ImE
    rw [hf 0 9 (by omega), hg 0 18 (by omega)]
    rcases r6 with r6 | ⟨r6, D, v, q1, q2, q3, q4⟩
    · exact Or.inl r6
    · refine Or.inr ⟨r6, D, v, q1, ?_, ?_, q4⟩
      · by_cases e : s = 0 ∨ 0 < s
        · exact q2.ag q1 (fun a i q => hf a i (by omega))
        · omega
      · have e : wI m' 13 = wI m 13 := funext fun i => hg 13 i (by omega)
        rw [e]
        exact q3
  · by_cases e : t = s
    · subst e
      exact hE
    · unfold ShE
      rw [hf _ _ (by omega), hf _ _ (by omega), hg 1 t (by omega), hg 2 t (by omega), hfL _ (by omega)]
      have h7 := r7 t h8
      refine ⟨h7.1, h7.2.imp id (fun q => q.imp id (fun q => ?_))⟩
      obtain ⟨k, l, q1, q2, q3, q4, q5, q6⟩ := q
      refine ⟨k, l, q1, q2, q3, q4, q5, fun i hi => ?_⟩
      rw [hgL _ (by omega)]
      exact q6 i hi
  · rw [hf _ _ (by omega), hg _ _ (by omega)]
    exact r8 i h1 h2
  · rw [hf _ _ (by omega), hg _ _ (by omega)]
    exact r9
  · obtain ⟨t, t1, t2, t3, t4⟩ := r10
    refine ⟨t, t1, ?_, ?_, fun i h1 h2 => ?_⟩
    · rw [hf _ _ (by omega)]; exact t2
    · rw [hg _ _ (by omega)]; exact t3
    · rw [hf _ _ (by omega), hg _ _ (by omega)]; exact t4 i h1 h2
theorem J7_fillL {w : Wd} {a n : Nat} (ha : isA w a 1) (hn : wn w a = n) (h5 : n < 100000) (v : Int64) : Wp (fJ7_fill_d0a16 a v w) (fun w' => StE w w' ∧ wI w' = wI w ∧ (∀ b, b ≠ a → wL w' b = wL w b) ∧ ∀ i, i < n → wL w' a i = v) := by
  unfold fJ7_fill_d0a16 fJ7_fill_d0a16_L6
  rw [chk_t ha, bnd_e, hn]
  refine it_w1 (fun i u => StE w u ∧ wI u = wI w ∧ (∀ b, b ≠ a → wL u b = wL w b) ∧ ∀ j, j < i → wL u a j = v) n h5 ⟨StE.refl w, rfl, fun _ _ => rfl, fun j h => absurd h (Nat.not_lt_zero j)⟩ (fun i u hi hu => ?_) (fun u hu => ?_)
  · obtain ⟨h1, h2, h3, h4⟩ := hu
    have hv2 : isA u a 1 ∧ wn u a = n := by rw [h1.eq]; exact ⟨ha, hn⟩
    have hle : (Int32.ofNat n ≤ nI i) = (n ≤ i) := nI_le_iff (by omega) (by omega)
    unfold fJ7_fill_d0a16_L6_body
    simp only [hle, if_neg (Nat.not_le.mpr hi), chk_t hv2.1, hv2.2, chk_t (inb_nI hi (show n < 2147483648 by omega)), nI_clamp (show i < 2 ^ 31 by omega), bnd_e, Wp_l]
    refine ⟨nI_1 i, h1.trans (StE_sL _ _ _ _), h2, fun b hb => ?_, fun j hj => ?_⟩
    · refine (funext fun j => ?_).trans (h3 b hb)
      rw [wL_sL, if_neg (fun r => hb r.1)]
    · rw [wL_sL]
      by_cases e : j = i
      · rw [if_pos ⟨rfl, e⟩]
      · rw [if_neg (fun r => e r.2)]
        exact h4 j (by omega)
  · have hle : (Int32.ofNat n ≤ nI n) = (n ≤ n) := nI_le_iff (by omega) (by omega)
    unfold fJ7_fill_d0a16_L6_body
    simp only [hle, Nat.le_refl, if_true]
    exact Wp_wr (Wp_of rfl hu)
theorem mul160 (k : Nat) : (160 : Int32) * nI k = nI (160 * k) := nI_mul 160 k
theorem X8_rowL {w : Wd} (hm : ShM w) {s : Nat} (h8 : s < 8) : Wp (fX8_row_L77 0 (nI s) (0, w)) (fun q => q.1 = 1 ∧ StE w q.2 ∧ wI q.2 = wI w ∧ (∀ c, (c < 160 * s ∨ 160 * s + 160 ≤ c) → wL q.2 3 c = wL w 3 c) ∧ ∀ i, i < 160 → wL q.2 3 (160 * s + i) = 0) := by
  unfold fX8_row_L77
  refine it_w1 (fun i u => StE w u ∧ wI u = wI w ∧ (∀ c, (c < 160 * s ∨ 160 * s + 160 ≤ c) → wL u 3 c = wL w 3 c) ∧ ∀ j, j < i → wL u 3 (160 * s + j) = 0) 160 (by decide) ⟨StE.refl w, rfl, fun _ _ => rfl, fun j h => absurd h (Nat.not_lt_zero j)⟩ (fun i u hi hu => ?_) (fun u hu => ?_)
  · obtain ⟨h1, h2, h3, h4⟩ := hu
    have hs := h1.shm hm
    obtain ⟨g1, g2, g3⟩ := hs.a3
    unfold fX8_row_L77_body
    simp only [leL160 (show i < 2147483648 by omega), if_neg (Nat.not_le.mpr hi), chk_t hs.O, g1, ob_s, chk_t g2, g3, mul160, nI_add, chk_t (inb_nI (show 160 * s + i < 1280 by omega) (by decide)), nI_clamp (show 160 * s + i < 2 ^ 31 by omega), bnd_e, Wp_l]
    refine ⟨nI_1 i, h1.trans (StE_sL _ _ _ _), h2, fun c hc => ?_, fun j hj => ?_⟩
    · rw [wL_sL, if_neg (by omega)]
      exact h3 c hc
    · rw [wL_sL]
      by_cases e : j = i
      · rw [if_pos ⟨rfl, by omega⟩]
      · rw [if_neg (by omega)]
        exact h4 j (by omega)
  · unfold fX8_row_L77_body
    rw [if_pos (show (160 : Int32) ≤ nI 160 by decide)]
    exact Wp_wr (Wp_of rfl ⟨rfl, hu⟩)
theorem C_row {C : Cl} {x m : Wd} (h : RelC C x m) (v : Int32) (k : Int32) (n : Int32) : E2 (fX7_row 0 v k n x) (fX8_row 0 v k n m) := by
  obtain ⟨⟨hs, hm, hI, hx, hxm⟩, -⟩ := id h
  have hP : cP C ≤ 6 := hI.1.1
  have hG : cG C ≤ 8 := hI.1.2
  have hc := hs.cl (b := 3) (Or.inl rfl)
  obtain ⟨a1, a2, a3, a4, a5, a6, a7, a8, a9, a10⟩ := hc.B
  obtain ⟨t1, t2, t3, t4, t5, t6, t7, t8, t9⟩ := hs.T
  have a0 := hm.O
  have gG := X0_hasGarment hc (n := cG C) hx.1.2.1 (by omega)
  have gP := X0_hasPerson hc (n := cP C) hx.1.1 (by omega)
  have mG := X8_isGarment hm (n := cG C) hxm.1.2.1 (by omega)
  have mP := X8_isOne hm (n := cP C) hxm.1.1 (by omega)
  obtain ⟨e1, e2, e3⟩ := hm.a1
  obtain ⟨f1, f2, f3⟩ := hm.a2
  unfold fX7_row fX8_row
  simp only [chk_t t1, t2, t3, t4, t5, ob_s, chk_t a1, chk_t a0, gG, gP, mG, mP, ob_eta, X7_isShelf, W8_7, W7_3, W8_3]
  by_cases e : isN v 8
  · obtain ⟨s, h8, rfl⟩ := isN_ex e
    obtain ⟨s1, s2, s3, s4, s5⟩ := hs.S h8
    obtain ⟨b1, b2⟩ := inb8 h8
    simp only [bI_t e, if_neg n10]
    by_cases n0 : (0 : Int32) ≤ n
    · simp only [if_pos n0]
      by_cases ek : isN k 4
      · obtain ⟨k, hk, rfl⟩ := isN_ex ek
        simp only [bI_t ek, if_neg n10]
        by_cases nl : n ≤ 160
        · obtain ⟨l, -, hl, rfl⟩ := rgN (a := 0) (b := 160) (by decide) ⟨n0, nl⟩ (by decide)
          have ek' : (100 : Int32) + nI k = nI (100 + k) := nI_add 100 k
          unfold fX6_holdRow
          simp only [if_pos nl, chk_t t6, t7, chk_t b1, b2, s1, ob_s, chk_t s2, bnd_e, cO_s, wR_sI, s3, e1, chk_t e2, e3, f1, chk_t f2, f3, cA_s, wn_sI, ek', chk_t a0]
          refine E2_of (r := 1) (X := fun u => StE x u ∧ (∀ a i, ¬ (a = 135 + 2 * s ∧ (i = 1 ∨ i = 2)) → wI u a i = wI x a i) ∧ (wI u (135 + 2 * s) 2 = nI (100 + k) ∧ wI u (135 + 2 * s) 1 = nI l) ∧ (∀ b, b ≠ 136 + 2 * s → wL u b = wL x b) ∧ ∀ i, i < 160 → wL u (136 + 2 * s) i = 0) (M := fun u => StE m u ∧ (∀ a i, ¬ ((a = 1 ∨ a = 2) ∧ i = s) → wI u a i = wI m a i) ∧ (wI u 1 s = nI (100 + k) ∧ wI u 2 s = nI l) ∧ (∀ c, (c < 160 * s ∨ 160 * s + 160 ≤ c) → wL u 3 c = wL m 3 c) ∧ ∀ i, i < 160 → wL u 3 (160 * s + i) = 0) (Wp_b (Wp_b ?_)) ?_ (fun u v hu hv => ?_)
          · have sx : StE x (sI (sI x (135 + 2 * s) 2 (nI (100 + k))) (135 + 2 * s) 1 (nI l)) := ⟨rfl, rfl, rfl⟩
            refine Wp_m (J7_fillL (n := 160) (show isA (sI (sI x (135 + 2 * s) 2 (nI (100 + k))) (135 + 2 * s) 1 (nI l)) (136 + 2 * s) 1 from s4) s5 (by decide) 0) (fun u hu => ?_)
            obtain ⟨h1, h2, h3, h4⟩ := hu
            refine Wp_of rfl (Wp_of rfl ⟨rfl, sx.trans h1, fun a i q => ?_, ⟨?_, ?_⟩, h3, h4⟩)
            · rw [h2, wI_n (by omega), wI_n (by omega)]
            · rw [h2, wI_n (by omega), wI_e]
            · rw [h2, wI_e]
          · have sm : StE m (sI (sI m 1 s (nI (100 + k))) 2 s (nI l)) := ⟨rfl, rfl, rfl⟩
            refine Wp_m (X8_rowL (sm.shm hm) h8) (fun q hq => ?_)
            obtain ⟨h0, h1, h2, h3, h4⟩ := hq
            refine ⟨h0, sm.trans h1, fun a i q => ?_, ⟨?_, ?_⟩, h3, h4⟩
            · rw [h2, wI_n (by omega), wI_n (by omega)]
            · rw [h2, wI_n (by omega), wI_e]
            · rw [h2, wI_e]
          · obtain ⟨u1, u2, u3, u4, u5⟩ := hu
            obtain ⟨v1, v2, v3, v4, v5⟩ := hv
            refine h.shelf s u1 v1 u2 v2 u4 v4 ⟨u3.1.trans v3.1.symm, Or.inr (Or.inr ⟨k, l, hk, hl, v3.1, u3.2, v3.2, fun i hi => ?_⟩)⟩
            rw [u5 i (by omega), v5 i (by omega)]
        · simp only [if_neg nl]
          exact h.r7
      · simp only [bI_f ek, if_true]
        exact h.r6
    · simp only [if_neg n0]
      exact h.r4
  · simp only [bI_f e, if_true]
    exact h.r1
/-! copying -/
theorem RelC.shB {C : Cl} {x m : Wd} (h : RelC C x m) {s : Nat} (h8 : s < 8) : ∃ t, t < 3 ∧ fX6_holdsGarment (135 + 2 * s) x = some (if t = 1 then 1 else 0, x) ∧ fX6_holdsNothing (135 + 2 * s) x = some (if t = 0 then 1 else 0, x) ∧ fX6_holdsRow (135 + 2 * s) x = some (if t = 2 then 1 else 0, x) ∧ fX8_isRow 0 (nI s) m = some (if t = 2 then 1 else 0, m) ∧ (wI m 1 s < 0) = (t = 0) ∧ (0 ≤ wI m 1 s) = ¬ (t = 0) ∧ wI x (135 + 2 * s) 2 = wI m 1 s ∧ (t = 2 → ∃ k l, RowE x m s k l) := by
  obtain ⟨s1, s2, s3, s4, s5⟩ := h.1.1.S h8
  have hG : cG C ≤ 8 := h.1.2.2.1.1.2
  rcases h.sh h8 with ⟨q1, q2⟩ | ⟨g, q0, q1, q2⟩ | ⟨k, l, hr⟩
  · refine ⟨0, by decide, ?_, ?_, ?_, ?_, ?_, ?_, q2.trans q1.symm, fun q => by cases q⟩
    · rw [X6_holdsG s2 _ q2, bI_f (fun q => q.1 rfl)]; rfl
    · rw [X6_holdsN s2 _ q2, bI_t rfl]; rfl
    · rw [X6_holdsR s2 _ q2, bI_f (by decide)]; rfl
    · rw [X8_isRow h.1.2.1 h8 _ q1, bI_f (by decide)]; rfl
    · rw [q1]; exact propext ⟨fun _ => rfl, fun _ => by decide⟩
    · rw [q1]; exact propext ⟨fun q => absurd q (by decide), fun q => absurd rfl q⟩
  · have g1 : ¬ nI g = -1 := nI_m1 (by omega)
    refine ⟨1, by decide, ?_, ?_, ?_, ?_, ?_, ?_, q2.trans q1.symm, fun q => by cases q⟩
    · rw [X6_holdsG s2 _ q2, bI_t ⟨g1, nle100 (by omega)⟩]; rfl
    · rw [X6_holdsN s2 _ q2, bI_f g1]; rfl
    · rw [X6_holdsR s2 _ q2, bI_f (not_not_intro (lt100 (by omega)))]; rfl
    · rw [X8_isRow h.1.2.1 h8 _ q1, bI_f (not_not_intro (lt100 (by omega)))]; rfl
    · rw [q1]; exact propext ⟨fun q => absurd q (nI_pos (by omega)), fun q => by cases q⟩
    · rw [q1]; exact propext ⟨fun _ => by decide, fun _ => nneg g (by omega)⟩
  · obtain ⟨⟨k4, l1⟩, r1, r2, r3, r4, r5⟩ := id hr
    refine ⟨2, by decide, ?_, ?_, ?_, ?_, ?_, ?_, r2.trans r1.symm, fun _ => ⟨k, l, hr⟩⟩
    · rw [X6_holdsG s2 _ r2, bI_f (fun q => q.2 (le100 k k4))]; rfl
    · rw [X6_holdsN s2 _ r2, bI_f (nI_m1 (by omega))]; rfl
    · rw [X6_holdsR s2 _ r2, bI_t (nlt100 k k4)]; rfl
    · rw [X8_isRow h.1.2.1 h8 _ r1, bI_t (nlt100 k k4)]; rfl
    · rw [r1]; exact propext ⟨fun q => absurd q (nI_pos (by omega)), fun q => by cases q⟩
    · rw [r1]; exact propext ⟨fun _ => by decide, fun _ => nneg (100 + k) (by omega)⟩
theorem sub_ltC {l a c : Nat} (hl : l ≤ 160) (ha : a < 2147483648) (hc : c < 2147483648) : (nI l - nI c < nI a) = ¬ (a + c ≤ l) := by
  apply propext
  rw [Int32.lt_iff_toInt_lt, Int32.toInt_sub, nI_toInt (by omega), nI_toInt (by omega), nI_toInt (by omega), Int.bmod_eq_of_le (by omega) (by omega)]
  omega
theorem lsum {a c : Nat} (ha : a < 2147483648) (hc : c < 2147483648) : ((nI a).toInt64 + (nI c).toInt64).toInt = (a : Int) + c := by
  rw [Int64.toInt_add, Int32.toInt_toInt64, Int32.toInt_toInt64, nI_toInt (by omega), nI_toInt (by omega), Int.bmod_eq_of_le (by omega) (by omega)]
theorem lcmp {l a c : Nat} (hl : l ≤ 160) (ha : a < 2147483648) (hc : c < 2147483648) : (0 < lg_cmp ((nI a).toInt64 + (nI c).toInt64) (nI l).toInt64) = ¬ (a + c ≤ l) := by
  have hs := lsum ha hc
  have hr : ((nI l).toInt64).toInt = (l : Int) := by rw [Int32.toInt_toInt64, nI_toInt (by omega)]
  apply propext
  unfold lg_cmp
  by_cases e : (nI a).toInt64 + (nI c).toInt64 > (nI l).toInt64
  · have e2 := Int64.lt_iff_toInt_lt.mp e
    rw [hs, hr] at e2
    rw [if_pos e]
    exact ⟨fun _ => by omega, fun _ => by decide⟩
  · have e2 := fun q => e (Int64.lt_iff_toInt_lt.mpr q)
    rw [hs, hr] at e2
    rw [if_neg e]
    refine ⟨fun q => ?_, fun q => absurd (show (l : Int) < (a : Int) + c by omega) e2⟩
    by_cases e3 : (nI a).toInt64 + (nI c).toInt64 = (nI l).toInt64
    · rw [if_pos e3] at q
      exact absurd q (by decide)
    · rw [if_neg e3] at q
      exact absurd q (by decide)
theorem lcmp' {l a c : Nat} (hl : l ≤ 160) (ha : a < 2147483648) (hc : c < 2147483648) : (lg_cmp ((nI a).toInt64 + (nI c).toInt64) (nI l).toInt64 ≤ 0) = (a + c ≤ l) := by
  have h := lcmp hl ha hc
  apply propext
  rw [← Int32.not_lt, h, Nat.not_le, Nat.not_lt]
theorem X6_spansC {w : Wd} {a l : Nat} (o : isO w a 6) (hl : wI w a 1 = nI l) (h1 : l ≤ 160) {i c : Nat} (hi : i < 2147483648) (hc : c < 2147483648) : fX6_spans a (nI i) (nI c) w = some (bI (i + c ≤ l), w) := by
  unfold fX6_spans fX6_spans_b22
  rw [if_neg (nI_pos hi), if_neg (nI_pos hc), chk_t o, hl]
  simp only [sub_ltC h1 hi hc]
  by_cases e : i + c ≤ l
  · rw [if_neg (not_not_intro e), bI_t e]; exact c01_1 w
  · rw [if_pos e, bI_f e]; exact c01_0 w
def CpM (m v : Wd) (S D lo hi : Nat) : Prop := StE m v ∧ wI v = wI m ∧ ∀ z, wL v 3 z = if D + lo ≤ z ∧ z < D + hi then wL m 3 (S + (z - D)) else wL m 3 z
theorem X8_copyU {m : Wd} (hm : ShM m) {p q a b n : Nat} (hp : p < 8) (hq : q < 8) (ha : a + n ≤ 160) (hb : b + n ≤ 160) (hd : p ≠ q ∨ b ≤ a) : Wp (fX8_copy_L251 0 (nI p) (nI q) (nI a) (nI b) (nI n) (0, m)) (fun r => r.1 = 1 ∧ CpM m r.2 (160 * p + a) (160 * q + b) 0 n) := by
  unfold fX8_copy_L251
  refine it_w1 (fun t v => CpM m v (160 * p + a) (160 * q + b) 0 t) n (by omega) ⟨StE.refl m, rfl, fun z => (if_neg (by omega)).symm⟩ (fun t v ht hv => ?_) (fun v hv => ?_)
  · obtain ⟨h1, h2, h3⟩ := hv
    have hs := h1.shm hm
    obtain ⟨g1, g2, g3⟩ := hs.a3
    unfold fX8_copy_L251_body
    simp only [nI_le_iff (show n < 2147483648 by omega) (show t < 2147483648 by omega), if_neg (Nat.not_le.mpr ht), chk_t hs.O, g1, ob_s, chk_t g2, g3, mul160, nI_add, chk_t (inb_nI (show 160 * p + a + t < 1280 by omega) (by decide)), chk_t (inb_nI (show 160 * q + b + t < 1280 by omega) (by decide)), nI_clamp (show 160 * p + a + t < 2 ^ 31 by omega), nI_clamp (show 160 * q + b + t < 2 ^ 31 by omega), bnd_e, Wp_l]
    refine ⟨nI_1 t, h1.trans (StE_sL _ _ _ _), h2, fun z => ?_⟩
    have hsrc : wL v 3 (160 * p + a + t) = wL m 3 (160 * p + a + t) := by rw [h3, if_neg (by omega)]
    rw [wL_sL, hsrc, h3]
    by_cases e : z = 160 * q + b + t
    · rw [if_pos ⟨rfl, e⟩, if_pos (by omega)]
      exact congrArg _ (by omega)
    · rw [if_neg (by omega)]
      by_cases e2 : 160 * q + b + 0 ≤ z ∧ z < 160 * q + b + t
      · rw [if_pos e2, if_pos (by omega)]
      · rw [if_neg e2, if_neg (by omega)]
  · unfold fX8_copy_L251_body fX8_copy_b295
    simp only [Int32.le_refl, if_true]
    exact Wp_wr (Wp_of rfl ⟨rfl, hv⟩)
theorem X8_copyD {m : Wd} (hm : ShM m) {p a b n : Nat} (hp : p < 8) (ha : a + n ≤ 160) (hb : b + n ≤ 160) (hd : a < b) : Wp (fX8_copy_L203 0 (nI p) (nI p) (nI a) (nI b) (wv n, m)) (fun r => r.1 = 1 ∧ CpM m r.2 (160 * p + a) (160 * p + b) 0 n) := by
  unfold fX8_copy_L203
  refine it_wp (fun t s => s.1 = wv (n - t) ∧ CpM m s.2 (160 * p + a) (160 * p + b) (n - t) n) n (by omega) (fun t s ht hv => ?_) (fun s hv => ?_) ⟨rfl, StE.refl m, rfl, fun z => (if_neg (by omega)).symm⟩
  · obtain ⟨y, v⟩ := s
    obtain ⟨e, h1, h2, h3⟩ := hv
    have e : y = wv (n - t) := e
    rw [show n - t = (n - t - 1) + 1 by omega, wv_s] at e
    subst e
    have hs : ShM v := h1.shm hm
    have h3 : ∀ z, wL v 3 z = if 160 * p + b + (n - t) ≤ z ∧ z < 160 * p + b + n then wL m 3 (160 * p + a + (z - (160 * p + b))) else wL m 3 z := h3
    obtain ⟨g1, g2, g3⟩ := hs.a3
    unfold fX8_copy_L203_body
    simp only [if_neg (nI_pos (show n - t - 1 < 2147483648 by omega)), chk_t hs.O, g1, ob_s, chk_t g2, g3, mul160, nI_add, chk_t (inb_nI (show 160 * p + a + (n - t - 1) < 1280 by omega) (by decide)), chk_t (inb_nI (show 160 * p + b + (n - t - 1) < 1280 by omega) (by decide)), nI_clamp (show 160 * p + a + (n - t - 1) < 2 ^ 31 by omega), nI_clamp (show 160 * p + b + (n - t - 1) < 2 ^ 31 by omega), bnd_e, Wp_l]
    refine ⟨?_, h1.trans (StE_sL _ _ _ _), h2, fun z => ?_⟩
    · rw [show n - (t + 1) = n - t - 1 by omega]
      unfold wv
      rw [Int32.sub_eq_add_neg]
    · have hsrc : wL v 3 (160 * p + a + (n - t - 1)) = wL m 3 (160 * p + a + (n - t - 1)) := by rw [h3, if_neg (by omega)]
      rw [wL_sL, hsrc, h3]
      by_cases e : z = 160 * p + b + (n - t - 1)
      · rw [if_pos ⟨rfl, e⟩, if_pos (by omega)]
        exact congrArg _ (by omega)
      · rw [if_neg (by omega)]
        by_cases e2 : 160 * p + b + (n - t) ≤ z ∧ z < 160 * p + b + n
        · rw [if_pos e2, if_pos (by omega)]
        · rw [if_neg e2, if_neg (by omega)]
  · obtain ⟨y, v⟩ := s
    obtain ⟨e, hv⟩ := hv
    have e : y = wv (n - n) := e
    rw [Nat.sub_self, wv_0] at e
    subst e
    unfold fX8_copy_L203_body fX8_copy_b295
    simp only [if_pos (show (-1 : Int32) < 0 by decide)]
    refine Wp_wr (Wp_of rfl ⟨rfl, ?_⟩)
    rw [Nat.sub_self] at hv
    exact hv
theorem wL_cpL {w : Wd} {a b sp dp n c j : Nat} : wL (cpL w a b sp dp n) c j = if c = b then va_cpy (wL w a) (wL w b) sp dp n j else wL w c j := by
  unfold cpL
  change (if c = b then va_cpy (wL w a) (wL w b) sp dp n else wL w c) j = _
  by_cases e : c = b
  · rw [if_pos e, if_pos e]
  · rw [if_neg e, if_neg e]
theorem RelC.cp {C : Cl} {x m m' : Wd} (h : RelC C x m) {p q a b n k l k' l' : Nat} (hp : p < 8) (hq : q < 8) (rp : RowE x m p k l) (rq : RowE x m q k' l') (ha : a + n ≤ l) (hb : b + n ≤ l') (hc : CpM m m' (160 * p + a) (160 * q + b) 0 n) : Rel (cpL x (136 + 2 * p) (136 + 2 * q) a b n) m' := by
  obtain ⟨h1, h2, h3⟩ := hc
  refine h.el h.1.1 (h1.shm h.1.2.1) rfl h2 (fun s k2 l2 h8 hr i hi => ?_)
  obtain ⟨⟨k4, l1⟩, r1, r2, r3, r4, r5⟩ := hr
  rw [wL_cpL, h3]
  by_cases e : s = q
  · subst e
    rw [if_pos rfl]
    unfold va_cpy
    by_cases e2 : b ≤ i ∧ i < b + n
    · rw [if_pos e2, if_pos (by omega), rp.2.2.2.2.2 _ (by omega)]
      exact congrArg _ (by omega)
    · rw [if_neg e2, if_neg (by omega)]
      exact r5 i hi
  · have q160 := rq.1.2
    rw [if_neg (by omega), if_neg (by omega)]
    exact r5 i hi
theorem nz01 : ((0 : Nat) = 1) = False := eq_false (by decide)
theorem nz02 : ((0 : Nat) = 2) = False := eq_false (by decide)
theorem nz10 : ((1 : Nat) = 0) = False := eq_false (by decide)
theorem nz12 : ((1 : Nat) = 2) = False := eq_false (by decide)
theorem nz20 : ((2 : Nat) = 0) = False := eq_false (by decide)
theorem nz21 : ((2 : Nat) = 1) = False := eq_false (by decide)
theorem otherS {C : Cl} {x m : Wd} (h : RelC C x m) {p q tp tq : Nat} (hp : p < 8) (hq : q < 8) (p4 : fX6_holdsRow (135 + 2 * p) x = some (if tp = 2 then 1 else 0, x)) (q4 : fX6_holdsRow (135 + 2 * q) x = some (if tq = 2 then 1 else 0, x)) (p8 : wI x (135 + 2 * p) 2 = wI m 1 p) (q8 : wI x (135 + 2 * q) 2 = wI m 1 q) : fX6_isOfOtherSort (135 + 2 * p) (135 + 2 * q) x = some (bI (tp = 2 ∧ tq = 2 ∧ ¬ wI m 1 p = wI m 1 q), x) := by
  obtain ⟨s1, s2, s3, s4, s5⟩ := h.1.1.S hp
  obtain ⟨u1, u2, u3, u4, u5⟩ := h.1.1.S hq
  unfold fX6_isOfOtherSort fX6_isOfOtherSort_b29
  rw [chk_t s2, p4, ob_s]
  by_cases e : tp = 2
  · simp only [if_pos e, if_neg n10, chk_t u2, q4, ob_s]
    by_cases e2 : tq = 2
    · simp only [if_pos e2, if_neg n10, chk_t s2, chk_t u2, p8, q8]
      by_cases e3 : wI m 1 p = wI m 1 q
      · rw [if_pos e3, bI_f (fun r => r.2.2 e3)]; exact c01_0 x
      · rw [if_neg e3, bI_t ⟨e, e2, e3⟩]; exact c01_1 x
    · simp only [if_neg e2, if_true]
      rw [bI_f (fun r => e2 r.2.1)]; exact c01_0 x
  · simp only [if_neg e, if_true]
    rw [bI_f (fun r => e r.1)]; exact c01_0 x
theorem C_copy {C : Cl} {x m : Wd} (h : RelC C x m) (u : Int32) (v : Int32) (i : Int32) (j : Int32) (n : Int32) : E2 (fX7_copy 0 u v i j n x) (fX8_copy 0 u v i j n m) := by
  obtain ⟨⟨hs, hm, hI, hx, hxm⟩, -⟩ := id h
  have hP : cP C ≤ 6 := hI.1.1
  have hG : cG C ≤ 8 := hI.1.2
  have hc := hs.cl (b := 3) (Or.inl rfl)
  obtain ⟨a1, a2, a3, a4, a5, a6, a7, a8, a9, a10⟩ := hc.B
  obtain ⟨t1, t2, t3, t4, t5, t6, t7, t8, t9⟩ := hs.T
  have a0 := hm.O
  have gG := X0_hasGarment hc (n := cG C) hx.1.2.1 (by omega)
  have gP := X0_hasPerson hc (n := cP C) hx.1.1 (by omega)
  have mG := X8_isGarment hm (n := cG C) hxm.1.2.1 (by omega)
  have mP := X8_isOne hm (n := cP C) hxm.1.1 (by omega)
  obtain ⟨e1, e2, e3⟩ := hm.a1
  obtain ⟨f1, f2, f3⟩ := hm.a2
  unfold fX7_copy fX8_copy fX7_copy_b14 fX8_copy_b20 fX7_copy_b62 fX7_copy_b85 fX7_copy_b127
  simp only [chk_t t1, t2, t3, t4, t5, ob_s, chk_t a1, chk_t a0, gG, gP, mG, mP, ob_eta, X7_isShelf, W8_7]
  by_cases ep : isN u 8
  · obtain ⟨p, hp, rfl⟩ := isN_ex ep
    simp only [bI_t ep, if_neg n10]
    by_cases eq : isN v 8
    · obtain ⟨q, hq, rfl⟩ := isN_ex eq
      obtain ⟨s1, s2, s3, s4, s5⟩ := hs.S hp
      obtain ⟨b1, b2⟩ := inb8 hp
      obtain ⟨u1, u2, u3, u4, u5⟩ := hs.S hq
      obtain ⟨c1, c2⟩ := inb8 hq
      obtain ⟨tp, p1, p2, p3, p4, p5, p6, p7, p8, p9⟩ := h.shB hp
      obtain ⟨tq, q1, q2, q3, q4, q5, q6, q7, q8, q9⟩ := h.shB hq
      have os := otherS h hp hq p4 q4 p8 q8
      unfold fX8_copy_b43 fX8_copy_b60 fX8_copy_b91 fX8_copy_b98 fX8_copy_b116 fX8_copy_b179
      simp only [bI_t eq, if_neg n10, chk_t t1, t2, t3, t4, t5, chk_t a1, chk_t a0, ob_eta, chk_t t6, t7, chk_t b1, b2, s1, ob_s, chk_t s2, chk_t c1, c2, u1, chk_t u2, e1, chk_t e2, e3, p2, q2, p3, q3, p5, q5, p6, q6, p7, q7, os]
      rcases (show tp = 0 ∨ tp = 1 ∨ tp = 2 by omega) with w | w | w <;> subst w
      · rcases (show tq = 0 ∨ tq = 1 ∨ tq = 2 by omega) with w | w | w <;> subst w
        · simp only [nz01, nz02, nz10, nz12, nz20, nz21, if_true, if_false, if_neg n10, not_false_eq_true, not_true_eq_false, true_and, and_true, false_and, and_false, bI_T, bI_F, chk_t t1, t2, t3, t4, t5, chk_t a1, chk_t a0, ob_eta, chk_t t6, t7, chk_t b1, b2, s1, ob_s, chk_t s2, chk_t c1, c2, u1, chk_t u2, e1, chk_t e2, e3, p2, q2, p3, q3, p5, q5, p6, q6, p7, q7, os]
          exact h.r3
        · simp only [nz01, nz02, nz10, nz12, nz20, nz21, if_true, if_false, if_neg n10, not_false_eq_true, not_true_eq_false, true_and, and_true, false_and, and_false, bI_T, bI_F, chk_t t1, t2, t3, t4, t5, chk_t a1, chk_t a0, ob_eta, chk_t t6, t7, chk_t b1, b2, s1, ob_s, chk_t s2, chk_t c1, c2, u1, chk_t u2, e1, chk_t e2, e3, p2, q2, p3, q3, p5, q5, p6, q6, p7, q7, os]
          exact h.r2
        · simp only [nz01, nz02, nz10, nz12, nz20, nz21, if_true, if_false, if_neg n10, not_false_eq_true, not_true_eq_false, true_and, and_true, false_and, and_false, bI_T, bI_F, chk_t t1, t2, t3, t4, t5, chk_t a1, chk_t a0, ob_eta, chk_t t6, t7, chk_t b1, b2, s1, ob_s, chk_t s2, chk_t c1, c2, u1, chk_t u2, e1, chk_t e2, e3, p2, q2, p3, q3, p5, q5, p6, q6, p7, q7, os]
          exact h.r3
      · simp only [nz01, nz02, nz10, nz12, nz20, nz21, if_true, if_false, if_neg n10, not_false_eq_true, not_true_eq_false, true_and, and_true, false_and, and_false, bI_T, bI_F, chk_t t1, t2, t3, t4, t5, chk_t a1, chk_t a0, ob_eta, chk_t t6, t7, chk_t b1, b2, s1, ob_s, chk_t s2, chk_t c1, c2, u1, chk_t u2, e1, chk_t e2, e3, p2, q2, p3, q3, p5, q5, p6, q6, p7, q7, os]
        exact h.r2
      · rcases (show tq = 0 ∨ tq = 1 ∨ tq = 2 by omega) with w | w | w <;> subst w
        · simp only [nz01, nz02, nz10, nz12, nz20, nz21, if_true, if_false, if_neg n10, not_false_eq_true, not_true_eq_false, true_and, and_true, false_and, and_false, bI_T, bI_F, chk_t t1, t2, t3, t4, t5, chk_t a1, chk_t a0, ob_eta, chk_t t6, t7, chk_t b1, b2, s1, ob_s, chk_t s2, chk_t c1, c2, u1, chk_t u2, e1, chk_t e2, e3, p2, q2, p3, q3, p5, q5, p6, q6, p7, q7, os]
          exact h.r3
        · simp only [nz01, nz02, nz10, nz12, nz20, nz21, if_true, if_false, if_neg n10, not_false_eq_true, not_true_eq_false, true_and, and_true, false_and, and_false, bI_T, bI_F, chk_t t1, t2, t3, t4, t5, chk_t a1, chk_t a0, ob_eta, chk_t t6, t7, chk_t b1, b2, s1, ob_s, chk_t s2, chk_t c1, c2, u1, chk_t u2, e1, chk_t e2, e3, p2, q2, p3, q3, p5, q5, p6, q6, p7, q7, os]
          exact h.r2
        · obtain ⟨k, l, rp⟩ := p9 rfl
          obtain ⟨k', l', rq⟩ := q9 rfl
          have lp := rp.1.2
          have lq := rq.1.2
          have ep1 := rp.2.2.2.1
          have eq1 := rq.2.2.2.1
          have fp1 := rp.2.2.2.2.1
          have fq1 := rq.2.2.2.2.1
          by_cases es : wI m 1 p = wI m 1 q
          · simp only [eq_true es, nz01, nz02, nz10, nz12, nz20, nz21, if_true, if_false, if_neg n10, not_false_eq_true, not_true_eq_false, true_and, and_true, false_and, and_false, bI_T, bI_F, chk_t t1, t2, t3, t4, t5, chk_t a1, chk_t a0, ob_eta, chk_t t6, t7, chk_t b1, b2, s1, ob_s, chk_t s2, chk_t c1, c2, u1, chk_t u2, e1, chk_t e2, e3, p2, q2, p3, q3, p5, q5, p6, q6, p7, q7, os]
            by_cases n0 : (0 : Int32) ≤ n
            · obtain ⟨c, hcn, rfl⟩ := isN_ex (n := 2147483647 + 1) ⟨(le0 n).mp n0, by have := Int32.toNatClampNeg_lt n; omega⟩
              by_cases i0 : i < 0
              · have sp : fX6_spans (135 + 2 * p) i (nI c) x = some (0, x) := by
                  unfold fX6_spans fX6_spans_b22
                  rw [if_pos i0]; exact c01_0 x
                simp only [if_pos n0, sp, if_pos i0, nz01, nz02, nz10, nz12, nz20, nz21, if_true, if_false, if_neg n10, not_false_eq_true, not_true_eq_false, true_and, and_true, false_and, and_false, bI_T, bI_F, chk_t t1, t2, t3, t4, t5, chk_t a1, chk_t a0, ob_eta, chk_t t6, t7, chk_t b1, b2, s1, ob_s, chk_t s2, chk_t c1, c2, u1, chk_t u2, e1, chk_t e2, e3, p2, q2, p3, q3, p5, q5, p6, q6, p7, q7, os]
                exact h.r5
              · obtain ⟨a, han, rfl⟩ := isN_ex (n := 2147483647 + 1) ⟨i0, by have := Int32.toNatClampNeg_lt i; omega⟩
                have sp := X6_spansC s2 ep1 lp (show a < 2147483648 by omega) (show c < 2147483648 by omega)
                by_cases j0 : j < 0
                · have sq : fX6_spans (135 + 2 * q) j (nI c) x = some (0, x) := by
                    unfold fX6_spans fX6_spans_b22
                    rw [if_pos j0]; exact c01_0 x
                  by_cases ea : a + c ≤ l
                  · simp only [if_pos n0, if_neg i0, if_pos j0, sp, sq, eq_true ea, nz01, nz02, nz10, nz12, nz20, nz21, if_true, if_false, if_neg n10, not_false_eq_true, not_true_eq_false, true_and, and_true, false_and, and_false, bI_T, bI_F, chk_t t1, t2, t3, t4, t5, chk_t a1, chk_t a0, ob_eta, chk_t t6, t7, chk_t b1, b2, s1, ob_s, chk_t s2, chk_t c1, c2, u1, chk_t u2, e1, chk_t e2, e3, p2, q2, p3, q3, p5, q5, p6, q6, p7, q7, os]
                    exact h.r5
                  · simp only [if_pos n0, if_neg i0, if_pos j0, sp, sq, eq_false ea, nz01, nz02, nz10, nz12, nz20, nz21, if_true, if_false, if_neg n10, not_false_eq_true, not_true_eq_false, true_and, and_true, false_and, and_false, bI_T, bI_F, chk_t t1, t2, t3, t4, t5, chk_t a1, chk_t a0, ob_eta, chk_t t6, t7, chk_t b1, b2, s1, ob_s, chk_t s2, chk_t c1, c2, u1, chk_t u2, e1, chk_t e2, e3, p2, q2, p3, q3, p5, q5, p6, q6, p7, q7, os]
                    exact h.r5
                · obtain ⟨b, hbn, rfl⟩ := isN_ex (n := 2147483647 + 1) ⟨j0, by have := Int32.toNatClampNeg_lt j; omega⟩
                  have sq := X6_spansC u2 eq1 lq (show b < 2147483648 by omega) (show c < 2147483648 by omega)
                  have k1 := lcmp lp (show a < 2147483648 by omega) (show c < 2147483648 by omega)
                  have k2 := lcmp' lq (show b < 2147483648 by omega) (show c < 2147483648 by omega)
                  by_cases ea : a + c ≤ l
                  · by_cases eb : b + c ≤ l'
                    · have kcp : (¬ nI a < 0 ∧ ¬ nI b < 0 ∧ ¬ nI c < 0 ∧ (nI a).toNatClampNeg + (nI c).toNatClampNeg ≤ 160 ∧ (nI b).toNatClampNeg + (nI c).toNatClampNeg ≤ 160) := ⟨i0, j0, nI_pos (by omega), by rw [nI_clamp (by omega), nI_clamp (by omega)]; omega, by rw [nI_clamp (by omega), nI_clamp (by omega)]; omega⟩
                      unfold fX8_copy_b248
                      simp only [if_pos n0, if_neg i0, if_neg j0, sp, sq, f1, chk_t f2, f3, fp1, fq1, k1, k2, eq_true ea, eq_true eb, nz01, nz02, nz10, nz12, nz20, nz21, if_true, if_false, if_neg n10, not_false_eq_true, not_true_eq_false, true_and, and_true, false_and, and_false, bI_T, bI_F, chk_t t1, t2, t3, t4, t5, chk_t a1, chk_t a0, ob_eta, chk_t t6, t7, chk_t b1, b2, s1, ob_s, chk_t s2, chk_t c1, c2, u1, chk_t u2, e1, chk_t e2, e3, p2, q2, p3, q3, p5, q5, p6, q6, p7, q7, os, s3, u3, chk_t s4, chk_t u4, s5, u5, chk_t kcp]
                      simp only [eq_false i0, eq_false j0, eq_false (nI_pos (show c < 2147483648 by omega)), nI_clamp (show a < 2 ^ 31 by omega), nI_clamp (show b < 2 ^ 31 by omega), nI_clamp (show c < 2 ^ 31 by omega), eq_true (show a + c ≤ 160 by omega), eq_true (show b + c ≤ 160 by omega), not_false_eq_true, true_and, chk_T, bnd_e, nI_eq_iff (show p < 2147483648 by omega) (show q < 2147483648 by omega), nI_le_iff (show b < 2147483648 by omega) (show a < 2147483648 by omega)]
                      by_cases epq : p = q
                      · simp only [if_pos epq]
                        by_cases eba : b ≤ a
                        · simp only [if_pos eba]
                          exact E2_of (r := 1) (X := fun w => w = cpL x (136 + 2 * p) (136 + 2 * q) a b c) (M := fun w => CpM m w (160 * p + a) (160 * q + b) 0 c) (Wp_of rfl ⟨rfl, rfl⟩) (X8_copyU hm hp hq (by omega) (by omega) (Or.inr eba)) (fun w w' hw hw' => by rw [hw]; exact h.cp hp hq rp rq ea eb hw')
                        · simp only [if_neg eba]
                          subst epq
                          exact E2_of (r := 1) (X := fun w => w = cpL x (136 + 2 * p) (136 + 2 * p) a b c) (M := fun w => CpM m w (160 * p + a) (160 * p + b) 0 c) (Wp_of rfl ⟨rfl, rfl⟩) (X8_copyD hm hp (by omega) (by omega) (by omega)) (fun w w' hw hw' => by rw [hw]; exact h.cp hp hp rp rq ea eb hw')
                      · simp only [if_neg epq]
                        exact E2_of (r := 1) (X := fun w => w = cpL x (136 + 2 * p) (136 + 2 * q) a b c) (M := fun w => CpM m w (160 * p + a) (160 * q + b) 0 c) (Wp_of rfl ⟨rfl, rfl⟩) (X8_copyU hm hp hq (by omega) (by omega) (Or.inl epq)) (fun w w' hw hw' => by rw [hw]; exact h.cp hp hq rp rq ea eb hw')
                    · simp only [if_pos n0, if_neg i0, if_neg j0, sp, sq, f1, chk_t f2, f3, fp1, fq1, k1, k2, eq_true ea, eq_false eb, nz01, nz02, nz10, nz12, nz20, nz21, if_true, if_false, if_neg n10, not_false_eq_true, not_true_eq_false, true_and, and_true, false_and, and_false, bI_T, bI_F, chk_t t1, t2, t3, t4, t5, chk_t a1, chk_t a0, ob_eta, chk_t t6, t7, chk_t b1, b2, s1, ob_s, chk_t s2, chk_t c1, c2, u1, chk_t u2, e1, chk_t e2, e3, p2, q2, p3, q3, p5, q5, p6, q6, p7, q7, os]
                      exact h.r5
                  · simp only [if_pos n0, if_neg i0, if_neg j0, sp, sq, f1, chk_t f2, f3, fp1, fq1, k1, k2, eq_false ea, nz01, nz02, nz10, nz12, nz20, nz21, if_true, if_false, if_neg n10, not_false_eq_true, not_true_eq_false, true_and, and_true, false_and, and_false, bI_T, bI_F, chk_t t1, t2, t3, t4, t5, chk_t a1, chk_t a0, ob_eta, chk_t t6, t7, chk_t b1, b2, s1, ob_s, chk_t s2, chk_t c1, c2, u1, chk_t u2, e1, chk_t e2, e3, p2, q2, p3, q3, p5, q5, p6, q6, p7, q7, os]
                    exact h.r5
            · simp only [if_neg n0, nz01, nz02, nz10, nz12, nz20, nz21, if_true, if_false, if_neg n10, not_false_eq_true, not_true_eq_false, true_and, and_true, false_and, and_false, bI_T, bI_F, chk_t t1, t2, t3, t4, t5, chk_t a1, chk_t a0, ob_eta, chk_t t6, t7, chk_t b1, b2, s1, ob_s, chk_t s2, chk_t c1, c2, u1, chk_t u2, e1, chk_t e2, e3, p2, q2, p3, q3, p5, q5, p6, q6, p7, q7, os]
              exact h.r4
          · simp only [eq_false es, nz01, nz02, nz10, nz12, nz20, nz21, if_true, if_false, if_neg n10, not_false_eq_true, not_true_eq_false, true_and, and_true, false_and, and_false, bI_T, bI_F, chk_t t1, t2, t3, t4, t5, chk_t a1, chk_t a0, ob_eta, chk_t t6, t7, chk_t b1, b2, s1, ob_s, chk_t s2, chk_t c1, c2, u1, chk_t u2, e1, chk_t e2, e3, p2, q2, p3, q3, p5, q5, p6, q6, p7, q7, os]
            exact h.r2
    · simp only [bI_f eq, if_true]
      exact h.r1
  · simp only [bI_f ep, if_true]
    exact h.r1
