/-! days tried, in the model -/
theorem X8_waits {w : Wd} {C : Cl} (hc : ShM w) (hx : IsM w C) (hI : CI C) {n : Nat} (hn : n < 61) : Wp (fX8_waits 0 (nI n) w) (fun v => Fr (cMd (12 * cG C)) w v ∧ IsM v (dnC C n)) := by
  unfold fX8_waits fX8_waits_L2
  refine it_w1 (fun i v => Fr (cMd (12 * cG C)) w v ∧ IsM v (dnC C i)) n (by omega) ⟨Fr.refl w, hx⟩ (fun i v hi hv => ?_) (fun v hv => ?_)
  · obtain ⟨hf, hxv⟩ := hv
    have hs := hf.shm hc
    have a0 := hs.O
    unfold fX8_waits_L2_body
    simp only [nI_le_iff (show n < 2147483648 by omega) (show i < 2147483648 by omega), if_neg (Nat.not_le.mpr hi), chk_t a0]
    refine Wp_c (X8_day hs hxv (CI_dnC hI i)) (fun q hq => ?_)
    rw [Wp_l]
    obtain ⟨-, h2, h3⟩ := hq
    rw [dnC_G] at h2
    exact ⟨nI_1 i, hf.trans h2, h3⟩
  · unfold fX8_waits_L2_body
    simp only [Int32.le_refl, if_true]
    exact Wp_wr (Wp_of rfl hv)
/-- what was kept comes back -/
theorem X8_back {w w1 v : Wd} {C : Cl} {S : Nat → Nat → Prop} (hc : ShM w) (hx : IsM w C) (hI : CI C) (h1 : Kp (wI w1 15) w) (hs1 : ShM w1) (hf : Fr S w1 v) (hS : ∀ i, ¬ S 15 i) : Wp (fX8_again 0 15 v) (fun u => Fr cM v u ∧ IsM u C) := by
  have hs := hf.shm hs1
  obtain ⟨a1, a2, a3⟩ := hs.a15
  refine Wp_m (X8_again hs (by decide) a2 a3) (fun u hu => ⟨hu.1, ?_⟩)
  have e : wI v 15 = wI w1 15 := funext fun i => hf.at (hS i)
  rw [e] at hu
  exact h1.isM hu.2 hI hx
def cMx (x i : Nat) : Prop := (4 ≤ x ∧ x < 11) ∨ 14 ≤ x ∨ (x = 0 ∧ (i = 3 ∨ i = 6 ∨ i = 12 ∨ i = 13 ∨ i = 24 ∨ i = 25))
theorem cMx_d {N x i : Nat} (h : cMd N x i) : cMx x i := by
  unfold cMd at h
  unfold cMx
  omega
theorem cMx_m {x i : Nat} (h : cM x i) : cMx x i := by
  unfold cM at h
  unfold cMx
  omega
theorem same_day {w v : Wd} {D : Cl} (hx : IsM w D) (hI : CI D) (hv : IsM v (dayC D)) (hf : Fr (cMd (12 * cG D)) w v) : (∀ k, k < 96 → wI v 9 k = wI w 9 k ∧ wI v 10 k = wI w 10 k) ↔ ∀ h, h < 12 → lnB D h (cG D) = false := by
  have hval : ∀ g h, g < cG D → h < 12 → (cHb (dayC D) g h = cHb (hourC D h) g h ∧ cFm (dayC D) g h = cFm (hourC D h) g h) := fun g h hg hh => (AgH_day D hh).2 g (by rw [dayC_G]; exact hg)
  have h8 := hI.1.2
  constructor
  · intro e h hh
    refine lnB_i _ (fun g hg hw => ?_)
    have h1 := e (12 * g + h) (by omega)
    have hx1 := (hx.2.2 g hg).2 h hh
    have hv1 := (hv.2.2 g (by rw [dayC_G]; exact hg)).2 h hh
    have hd := hval g h hg hh
    have c1 := (hI.2.2 g hg).2 h hh
    have c2 := ((CI_hourC hI hh).2.2 g hg).2 h hh
    rw [hx1.1, hx1.2, hv1.1, hv1.2, hd.1, hd.2, nI_eq_iff (by omega) (by omega), nI_eq_iff (by omega) (by omega)] at h1
    have e1 : cHb (hourC D h) g h = (lrC D h g).1 := if_pos ⟨rfl, hg, hw⟩
    have e2 : cFm (hourC D h) g h = (lrC D h g).2 := if_pos ⟨rfl, hg, hw⟩
    rw [e1, e2] at h1
    exact h1
  · intro e k hk
    by_cases q : k < 12 * cG D
    · obtain ⟨g, h, hg, hh, rfl⟩ : ∃ g h, g < cG D ∧ h < 12 ∧ k = 12 * g + h := ⟨k / 12, k % 12, by omega, by omega, by omega⟩
      have hx1 := (hx.2.2 g hg).2 h hh
      have hv1 := (hv.2.2 g (by rw [dayC_G]; exact hg)).2 h hh
      have hd := hval g h hg hh
      have ha := (AgH_fix (e h hh)).2 g hg
      rw [hx1.1, hx1.2, hv1.1, hv1.2, hd.1, hd.2, ha.1, ha.2]
      exact ⟨rfl, rfl⟩
    · exact ⟨hf.at (by unfold cMd; omega), hf.at (by unfold cMd; omega)⟩
theorem X8_sameL {w : Wd} (hc : ShM w) (x y : Int32) {P : Int32 × Wd → Prop} {I : Int32 × Int32 × Wd → Prop} (hP : ∀ z : Int32, (z = 1 ∧ (∀ k, k < 96 → wI w 9 k = wI w 14 (24 + k) ∧ wI w 10 k = wI w 14 (120 + k)) ∨ z = 0 ∧ ¬ ∀ k, k < 96 → wI w 9 k = wI w 14 (24 + k) ∧ wI w 10 k = wI w 14 (120 + k)) → I (if z = 0 then x else y, y + 1, w)) : Wp (fX8_settled_L41 0 x y (1, 0, w)) (lp I P) := by
  have a0 := hc.O
  obtain ⟨c1, c2, c3⟩ := hc.a9
  obtain ⟨d1, d2, d3⟩ := hc.a10
  obtain ⟨e1, e2, e3⟩ := hc.a14
  unfold fX8_settled_L41
  refine it_w2 (fun i z v => v = w ∧ (z = 1 ∧ (∀ k, k < i → wI w 9 k = wI w 14 (24 + k) ∧ wI w 10 k = wI w 14 (120 + k)) ∨ z = 0 ∧ ¬ ∀ k, k < i → wI w 9 k = wI w 14 (24 + k) ∧ wI w 10 k = wI w 14 (120 + k))) 96 (by decide) ⟨rfl, Or.inl ⟨rfl, fun k q => absurd q (Nat.not_lt_zero k)⟩⟩ (fun i z v hi hv => ?_) (fun z v hv => ?_)
  · obtain ⟨rfl, hz⟩ := hv
    have m1 : inb (nI i) 96 := inb_nI hi (by decide)
    have m2 : (nI i).toNatClampNeg = i := nI_clamp (by omega)
    have p1 : inb (nI (24 + i)) 298 := inb_nI (by omega) (by decide)
    have p2 : (nI (24 + i)).toNatClampNeg = 24 + i := nI_clamp (by omega)
    have r1 : inb (nI (120 + i)) 298 := inb_nI (by omega) (by decide)
    have r2 : (nI (120 + i)).toNatClampNeg = 120 + i := nI_clamp (by omega)
    unfold fX8_settled_L41_body
    simp only [leL96 (show i < 2147483648 by omega), if_neg (Nat.not_le.mpr hi), chk_t a0, c1, ob_s, chk_t c2, c3, chk_t m1, m2, e1, chk_t e2, e3, adL24, chk_t p1, p2, d1, chk_t d2, d3, adL120, chk_t r1, r2, fX8_settled_b88, fX8_settled_b90]
    have no : ¬ (wI v 9 i = wI v 14 (24 + i) ∧ wI v 10 i = wI v 14 (120 + i)) → ¬ ∀ k, k < i + 1 → wI v 9 k = wI v 14 (24 + k) ∧ wI v 10 k = wI v 14 (120 + k) := fun q r => q (r i (Nat.lt_succ_self i))
    by_cases q1 : wI v 9 i = wI v 14 (24 + i)
    · by_cases q2 : wI v 10 i = wI v 14 (120 + i)
      · simp only [if_pos q1, if_pos q2, Wp_l]
        refine ⟨nI_1 i, trivial, ?_⟩
        rcases hz with ⟨z1, z2⟩ | ⟨z1, z2⟩
        · refine Or.inl ⟨z1, fun k hk => ?_⟩
          by_cases r : k = i
          · subst r
            exact ⟨q1, q2⟩
          · exact z2 k (by omega)
        · exact Or.inr ⟨z1, fun r => z2 (fun k hk => r k (by omega))⟩
      · simp only [if_pos q1, if_neg q2, Wp_l]
        exact ⟨nI_1 i, trivial, Or.inr ⟨trivial, no (fun r => q2 r.2)⟩⟩
    · simp only [if_neg q1, Wp_l]
      exact ⟨nI_1 i, trivial, Or.inr ⟨trivial, no (fun r => q1 r.1)⟩⟩
  · obtain ⟨rfl, hz⟩ := hv
    have := hP z hz
    unfold fX8_settled_L41_body
    rw [if_pos (show (96 : Int32) ≤ nI 96 by decide)]
    refine Wp_wr ?_
    by_cases q : z = 0
    · simp only [if_pos q, fX8_settled_b102, Wp_l] at this ⊢
      exact this
    · simp only [if_neg q, fX8_settled_b102, Wp_l] at this ⊢
      exact this
theorem X8_settled {w : Wd} {C : Cl} (hc : ShM w) (hx : IsM w C) (hI : CI C) : Wp (fX8_settled 0 w) (fun q => q.1 = smR C ∧ Fr cMx w q.2 ∧ IsM q.2 C) := by
  have a0 := hc.O
  obtain ⟨e1, e2, e3⟩ := hc.a15
  unfold fX8_settled
  simp only [chk_t a0, e1, ob_s]
  refine Wp_c (X8_keep hc (by decide) e2 e3) (fun w1 h1 => ?_)
  have hs1 := h1.1.shm hc
  have hx1 := hx.fr h1.1 (fun a i q => by omega)
  have hf1 : Fr cMx w w1 := h1.1.mono (fun a i q => by unfold cMx; omega)
  unfold fX8_settled_L12
  have fin : ∀ (x : Int32) (v : Wd), Fr (fun x i => cMd (12 * cG C) x i ∨ x = 14) w1 v → x = smR C → Wp (fX8_settled_b108 0 x v) (fun q => q.1 = smR C ∧ Fr cMx w q.2 ∧ IsM q.2 C) := by
    intro x v hf hx2
    have hs := hf.shm hs1
    have a0 := hs.O
    obtain ⟨e1, -⟩ := hs.a15
    unfold fX8_settled_b108
    simp only [chk_t a0, e1, ob_s]
    refine Wp_c (X8_back hc hx hI h1.2 hs1 hf (fun i q => by unfold cMd at q; omega)) (fun u hu => ?_)
    refine Wp_of rfl ⟨hx2, (hf1.trans (hf.mono (fun a i q => ?_))).trans (hu.1.mono (fun a i q => cMx_m q)), hu.2⟩
    rcases q with q | q
    · exact cMx_d q
    · unfold cMx
      omega
  refine it_wp (fun i s => s.2.1 = nI i ∧ Fr (fun x i => cMd (12 * cG C) x i ∨ x = 14) w1 s.2.2 ∧ ((s.1 = -1 ∧ IsM s.2.2 (dnC C i) ∧ i ≤ smS C 12) ∨ (smS C 12 < 61 ∧ s.1 = nI (smS C 12)))) 61 (by decide) (fun i s hi hv => ?_) (fun s hv => ?_) ⟨rfl, Fr.refl w1, Or.inl ⟨rfl, hx1, Nat.zero_le _⟩⟩
  · obtain ⟨x, y, v⟩ := s
    obtain ⟨e, hf, hc2⟩ := hv
    have e : y = nI i := e
    subst e
    have hf : Fr (fun x i => cMd (12 * cG C) x i ∨ x = 14) w1 v := hf
    unfold fX8_settled_L12_body
    simp only [leL61 (show i < 2147483648 by omega), if_neg (Nat.not_le.mpr hi)]
    rcases hc2 with ⟨r1, hxv, r3⟩ | ⟨r1, r2⟩
    · have r1 : x = -1 := r1
      have hxv : IsM v (dnC C i) := hxv
      subst r1
      have hs := hf.shm hs1
      have a0 := hs.O
      obtain ⟨k1, k2, k3⟩ := hs.a14
      simp only [if_true, chk_t a0, k1, ob_s]
      refine Wp_c (X8_keep hs (by decide) k2 k3) (fun v1 h2 => ?_)
      have hs2 := h2.1.shm hs
      have a0 := hs2.O
      have hx2 := hxv.fr h2.1 (fun a i q => by omega)
      simp only [chk_t a0]
      refine Wp_c (X8_day hs2 hx2 (CI_dnC hI i)) (fun q hq => ?_)
      obtain ⟨-, h3, h4⟩ := hq
      have hs3 := h3.shm hs2
      have hGi : cG (dnC C i) = cG C := dnC_G C i
      have key := same_day hx2 (CI_dnC hI i) h4 h3
      have hkp : (∀ k, k < 96 → wI q.2 9 k = wI q.2 14 (24 + k) ∧ wI q.2 10 k = wI q.2 14 (120 + k)) ↔ ∀ h, h < 12 → qtB C h i = true := by
        have hq1 : ∀ h, h < 12 → (lnB (dnC C i) h (cG (dnC C i)) = false ↔ qtB C h i = true) := fun h hh => by
          have := (AgH_dn C hh i).ln (cG (dnC C i)) (Nat.le_refl _)
          rw [this]
          unfold qtB
          rw [hGi, Bool.not_eq_true']
        have hk2 : ∀ k, k < 96 → wI q.2 14 (24 + k) = wI v1 9 k ∧ wI q.2 14 (120 + k) = wI v1 10 k := fun k hk => by
          have h5 := h2.2.2.1 k hk
          rw [h3.at (by unfold cMd; omega), h3.at (by unfold cMd; omega), h5.1, h5.2, h2.1.at (by omega), h2.1.at (by omega)]
          exact ⟨rfl, rfl⟩
        constructor
        · intro e h hh
          refine (hq1 h hh).mp (key.mp (fun k hk => ?_) h hh)
          have := e k hk
          rw [(hk2 k hk).1, (hk2 k hk).2] at this
          exact this
        · intro e k hk
          rw [(hk2 k hk).1, (hk2 k hk).2]
          exact key.mpr (fun h hh => (hq1 h hh).mpr (e h hh)) k hk
      have hf4 : Fr (fun x i => cMd (12 * cG C) x i ∨ x = 14) w1 q.2 := (hf.trans (h2.1.mono (fun a i q => Or.inr q))).trans (h3.mono (fun a i q => Or.inl (by rw [hGi] at q; exact q)))
      refine X8_sameL hs3 _ _ (fun z hz => ?_)
      refine ⟨nI_1 i, hf4, ?_⟩
      rcases hz with ⟨z1, z2⟩ | ⟨z1, z2⟩
      · have hall := hkp.mp z2
        have hle : smS C 12 ≤ i := Nat.not_lt.mp (fun r => by
          obtain ⟨h, h1, h2⟩ := sm_no r
          rw [hall h h1] at h2
          cases h2)
        refine Or.inr ⟨by omega, ?_⟩
        show (if z = 0 then (-1 : Int32) else nI i) = _
        rw [z1, if_neg n10, show i = smS C 12 by omega]
      · refine Or.inl ⟨?_, h4, ?_⟩
        · show (if z = 0 then (-1 : Int32) else nI i) = _
          rw [z1, if_pos rfl]
        · rcases Nat.lt_or_ge i (smS C 12) with r | r
          · exact r
          · exact absurd (hkp.mpr (fun h hh => sm_yes r (by omega) hh)) z2
    · have r2 : x = nI (smS C 12) := r2
      simp only [r2, if_neg (nI_m1 (show smS C 12 < 2147483648 by omega))]
      refine Wp_wr (fin _ v hf ?_)
      unfold smR
      rw [if_pos r1]
  · obtain ⟨x, y, v⟩ := s
    obtain ⟨e, hf, hc2⟩ := hv
    have e : y = nI 61 := e
    subst e
    have hf : Fr (fun x i => cMd (12 * cG C) x i ∨ x = 14) w1 v := hf
    unfold fX8_settled_L12_body
    simp only [show (61 : Int32) ≤ nI 61 by decide, if_true]
    refine Wp_wr (fin _ v hf ?_)
    unfold smR
    rcases hc2 with ⟨r1, -, r3⟩ | ⟨r1, r2⟩
    · rw [if_neg (by omega)]
      exact r1
    · rw [if_pos r1]
      exact r2
