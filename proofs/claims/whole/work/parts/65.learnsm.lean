theorem sI_sw (w : Wd) {a b i j : Nat} {u v : Int32} (h : a ≠ b) : sI (sI w a i u) b j v = sI (sI w b j v) a i u := by
  have e1 : wI (sI w a i u) b = wI w b := wI_ne (fun q => h q.symm)
  have e2 : wI (sI w b j v) a = wI w a := wI_ne h
  rw [show sI (sI w a i u) b j v = sIr (sI w a i u) b (upd (wI (sI w a i u) b) j v) from rfl, show sI (sI w b j v) a i u = sIr (sI w b j v) a (upd (wI (sI w b j v) a) i u) from rfl, e1, e2]
  unfold sI sIr
  refine congrArg (fun f => (w.1, w.2.1, f, w.2.2.2.1, w.2.2.2.2)) (funext fun c => ?_)
  change (if c = b then upd (wI w b) j v else if c = a then upd (wI w a) i u else w.2.2.1 c) = (if c = a then upd (wI w a) i u else if c = b then upd (wI w b) j v else w.2.2.1 c)
  by_cases q : c = b
  · rw [if_pos q, if_neg (fun r => h (r.symm.trans q)), if_pos q]
  · rw [if_neg q]
    by_cases r : c = a
    · rw [if_pos r, if_pos r]
    · rw [if_neg r, if_neg r, if_neg q]
theorem sub_pos9 : ∀ a, a < 10 → ∀ b, b < 10 → (0 < nI a - nI b ↔ b < a) := by decide +kernel
theorem X8_learns {w : Wd} (hc : ShM w) {g k h hb fm d : Nat} (hg : g < 8) (hk : wI w 6 g = nI k) (h7 : k < 7) (hh : h < 12) (h1 : wI w 9 (12 * g + h) = nI hb) (h2 : wI w 10 (12 * g + h) = nI fm) (l1 : hb ≤ 9) (l2 : fm ≤ 9) (hz : hb = 0 ↔ fm = 0) (ld : d ≤ 9) :
    fX8_learns 0 (nI g) (nI h) (nI d) w = some (sI (sI w 9 (12 * g + h) (nI (lrS k hb fm d).1)) 10 (12 * g + h) (nI (lrS k hb fm d).2)) := by
  have a0 := hc.O
  obtain ⟨c1, c2, c3⟩ := hc.a9
  obtain ⟨d1, d2, d3⟩ := hc.a10
  obtain ⟨e1, e2, e3⟩ := hc.a6
  obtain ⟨m1, m2⟩ := inb96 hg hh
  obtain ⟨b1, b2⟩ := inb8 hg
  have hsp := spT_le k
  have hs1 := spT_ge k
  have hsm : smT k hb ≤ 9 := by
    unfold smT
    by_cases q : (k = 4 ∨ k = 6) ∧ hb ≠ 0
    · rw [if_pos q]; omega
    · rw [if_neg q]; exact hsp
  have same : some w = some (sI (sI w 9 (12 * g + h) (nI hb)) 10 (12 * g + h) (nI fm)) := by
    rw [sI_eq h1, sI_eq h2]
  unfold fX8_learns
  simp only [tw_mul_nI, nI_add, bnd_e, chk_t a0, c1, ob_s, chk_t c2, c3, chk_t m1, m2, h1, X8_step hc hg hk h7 l1, eqL0 (show d < 2147483648 by omega), eqL0 (show smT k hb < 2147483648 by omega), nI_eq_iff (show hb < 2147483648 by omega) (show d < 2147483648 by omega)]
  by_cases f1 : d = 0
  · rw [if_pos f1]
    unfold lrS
    rw [if_pos f1]
    exact same
  · rw [if_neg f1]
    by_cases f2 : (k = 4 ∨ k = 6) ∧ hb ≠ 0
    · rw [if_pos (show smT k hb = 0 from if_pos f2)]
      unfold lrS
      rw [if_neg f1, if_pos f2]
      exact same
    · rw [if_neg (show ¬ smT k hb = 0 from by rw [show smT k hb = spT k from if_neg f2]; omega), show smT k hb = spT k from if_neg f2]
      unfold lrS
      rw [if_neg f1, if_neg f2]
      by_cases f3 : hb = d
      · have hv : (if nI (fm + spT k) < 9 then nI (fm + spT k) else 9) = nI (if fm + spT k < 9 then fm + spT k else 9) := by
          simp only [ltR9 (show fm + spT k < 2147483648 by omega)]
          by_cases q : fm + spT k < 9
          · rw [if_pos q, if_pos q]
          · rw [if_neg q, if_neg q]
            rfl
        rw [if_pos f3, if_pos f3]
        simp only [d1, ob_s, chk_t d2, d3, chk_t m1, m2, h2, nI_add, hv, sI_eq h1]
      · rw [if_neg f3, if_neg f3]
        simp only [d1, ob_s, chk_t d2, d3, chk_t m1, m2, h2]
        have hp : (0 < nI fm - nI (spT k)) = (spT k < fm) := propext (sub_pos9 fm (by omega) (spT k) (by omega))
        have c4 : ShM (sI w 10 (12 * g + h) (nI fm - nI (spT k))) := hc
        have c0 := c4.O
        have c5 : isA (sI w 10 (12 * g + h) (nI fm - nI (spT k))) 10 0 := d2
        have c6 : isA (sI w 10 (12 * g + h) (nI fm - nI (spT k))) 6 0 := e2
        have c7 : wI (sI w 10 (12 * g + h) (nI fm - nI (spT k))) 6 g = nI k := by rw [wI_ne (by decide)]; exact hk
        have c8 : wI (sI w 10 (12 * g + h) (nI fm - nI (spT k))) 10 (12 * g + h) = nI fm - nI (spT k) := by rw [wI_sI, if_pos ⟨rfl, rfl⟩]
        simp only [chk_t c0, wR_sI, wn_sI, d1, ob_s, chk_t c5, d3, chk_t m1, c8, hp]
        by_cases f4 : fm ≤ spT k
        · rw [if_neg (Nat.not_lt.mpr f4), if_pos f4]
          simp only [e1, ob_s, chk_t c6, e3, chk_t b1, b2, c7, X8_isUnder4 _ k h7, fX8_learns_b111, chk_t c0, X8_becomes c4 hg hh, fX8_learns_b114]
          by_cases f5 : k = 4 ∨ k = 6
          · simp only [if_pos f5, if_neg n10]
            rw [sI_sw w (show (10 : Nat) ≠ 9 by decide), sI_sI]
            rfl
          · simp only [if_neg f5, if_true]
            rw [sI_sw w (show (10 : Nat) ≠ 9 by decide), sI_sI]
            rfl
        · rw [if_pos (Nat.not_le.mp f4), if_neg f4]
          simp only [fX8_learns_b114, nI_sub_le (show spT k ≤ fm by omega), sI_eq h1]
