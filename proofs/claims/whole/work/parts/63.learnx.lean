theorem sI_eq {w : Wd} {a i : Nat} {v : Int32} (h : wI w a i = v) : sI w a i v = w := by
  rw [← h]
  exact sI_id w a i
theorem nI_sub_le {a b : Nat} (h : b ≤ a) : nI a - nI b = nI (a - b) := by
  have e := nI_add (a - b) b
  rw [show a - b + b = a by omega] at e
  rw [← e]
  exact Int32.add_sub_cancel _ _
theorem spT_ge (k : Nat) : 1 ≤ spT k := by
  unfold spT
  by_cases e : k = 2 ∨ k = 3
  · rw [if_pos e]; decide
  · rw [if_neg e]
    by_cases e2 : k = 4 ∨ k = 6
    · rw [if_pos e2]; decide
    · rw [if_neg e2]
      by_cases e3 : k = 5
      · rw [if_pos e3]; decide
      · rw [if_neg e3]; decide
theorem X2_learn {w : Wd} {a k h hb fm d : Nat} (hg : GaS w a) (hk : wI w a 2 = nI k) (h7 : k < 7) (hh : h < 12) (h1 : wI w (a + 1) h = nI hb) (h2 : wI w (a + 2) h = nI fm) (l1 : hb ≤ 9) (l2 : fm ≤ 9) (hz : hb = 0 ↔ fm = 0) (ld : d ≤ 9) :
    fX2_learn a (nI h) (nI d) w = some (if (lrS k hb fm d).1 = hb ∧ (lrS k hb fm d).2 = fm then 0 else 1, sI (sI w (a + 1) h (nI (lrS k hb fm d).1)) (a + 2) h (nI (lrS k hb fm d).2)) := by
  obtain ⟨g1, g2, g3, g4, g5, g6, g7, g8⟩ := hg
  obtain ⟨n1, n2⟩ := inb12 hh
  have o : isO w a 2 := ⟨by omega, g2⟩
  have i1 : isA w (a + 1) 0 := ⟨by omega, g5⟩
  have i2 : isA w (a + 2) 0 := ⟨g1, g7⟩
  have hsp := spT_le k
  have mid : ¬ (d = 0) → ¬ ((k = 4 ∨ k = 6) ∧ hb ≠ 0) → fX2_learn_b22 a (nI h) (nI d) w = some (if (lrS k hb fm d).1 = hb ∧ (lrS k hb fm d).2 = fm then 0 else 1, sI (sI w (a + 1) h (nI (lrS k hb fm d).1)) (a + 2) h (nI (lrS k hb fm d).2)) := by
    intro e1 e2
    unfold fX2_learn_b22 lrS
    simp only [chk_t o, g4, ob_s, chk_t i2, g8, chk_t n1, n2, h2, bnd_e, g3, chk_t i1, g6, h1, nI_eq_iff (show hb < 2147483648 by omega) (show d < 2147483648 by omega), X2_step o hk h7, if_neg e1, if_neg e2]
    by_cases e3 : hb = d
    · have c3 : isA (sI w (a + 2) h (if nI fm + nI (spT k) < 9 then nI fm + nI (spT k) else 9)) (a + 2) 0 := i2
      have c4 : isO (sI w (a + 2) h (if nI fm + nI (spT k) < 9 then nI fm + nI (spT k) else 9)) a 2 := o
      have hv : (if nI fm + nI (spT k) < 9 then nI fm + nI (spT k) else 9) = nI (if fm + spT k < 9 then fm + spT k else 9) := by
        rw [nI_add]
        simp only [ltR9 (show fm + spT k < 2147483648 by omega)]
        by_cases q : fm + spT k < 9
        · rw [if_pos q, if_pos q]
        · rw [if_neg q, if_neg q]
          rfl
      have hl : (if fm + spT k < 9 then fm + spT k else 9) < 10 := by
        by_cases q : fm + spT k < 9
        · rw [if_pos q]; omega
        · rw [if_neg q]; omega
      rw [if_pos e3, if_pos e3]
      simp only [hv] at c3 c4 ⊢
      generalize (if fm + spT k < 9 then fm + spT k else 9) = t at hl c3 c4 ⊢
      simp only [chk_t c3, chk_t c4, wR_sI, wn_sI, g4, ob_s, g8, chk_t n1, n2, wI_sI, true_and, if_true, nI_eq_iff (show t < 2147483648 by omega) (show fm < 2147483648 by omega), sI_eq h1, fX2_learn_b71]
      by_cases q : t = fm
      · rw [if_pos q, if_pos q]; rfl
      · rw [if_neg q, if_neg q]; rfl
    · rw [if_neg e3, if_neg e3]
      simp only [nI_le_iff (show fm < 2147483648 by omega) (show spT k < 2147483648 by omega)]
      by_cases e4 : fm ≤ spT k
      · rw [if_pos e4, if_pos e4]
        simp only [chk_t o, X2_learnsOnce o hk h7, ob_s, fX2_learn_b111, X2_accustom (show GaS w a from ⟨g1, g2, g3, g4, g5, g6, g7, g8⟩) hh, fX2_learn_b114]
        by_cases e5 : k = 4 ∨ k = 6
        · simp only [if_pos e5, if_neg n10]
          rw [if_neg (show ¬ (d = hb ∧ _) from fun q => e3 q.1.symm)]
          rfl
        · simp only [if_neg e5, if_true]
          rw [if_neg (show ¬ (d = hb ∧ _) from fun q => e3 q.1.symm)]
          rfl
      · rw [if_neg e4, if_neg e4]
        simp only [chk_t o, g4, ob_s, X2_step o hk h7, chk_t i2, g8, chk_t n1, n2, bnd_e, fX2_learn_b114, nI_sub_le (show spT k ≤ fm by omega), sI_eq h1]
        have hs1 := spT_ge k
        have hne : ¬ fm - spT k = fm := by omega
        simp [hne]
  unfold fX2_learn
  simp only [eqL0 (show d < 2147483648 by omega), chk_t o, X2_learnsOnce o hk h7, ob_s, g3, chk_t i1, g6, chk_t n1, n2, h1, eqL0 (show hb < 2147483648 by omega)]
  by_cases e1 : d = 0
  · rw [if_pos e1]
    unfold lrS
    simp only [if_pos e1]
    rw [sI_eq h1, sI_eq h2, if_pos ⟨trivial, trivial⟩]; rfl
  · rw [if_neg e1]
    by_cases e2 : k = 4 ∨ k = 6
    · rw [if_pos e2, if_neg n10]
      by_cases e3 : hb = 0
      · rw [if_pos e3]
        exact mid e1 (fun q => q.2 e3)
      · rw [if_neg e3]
        unfold lrS
        simp only [if_neg e1, if_pos (show (k = 4 ∨ k = 6) ∧ hb ≠ 0 from ⟨e2, e3⟩)]
        rw [sI_eq h1, sI_eq h2, if_pos ⟨trivial, trivial⟩]; rfl
    · rw [if_neg e2, if_pos rfl]
      exact mid e1 (fun q => e2 q.1)
